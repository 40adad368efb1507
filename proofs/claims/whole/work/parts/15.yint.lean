/-! the reference's machine: the interface's steps, and the whole run -/
section YI
variable {yh yn yo ye yc : Int32} {kd pa pb yt bi ln sl cj ac ov : Nat → Int32} {n : Nat} {K st sc : Nat → Nat} {L : Nat → Int32 → List Int32} {C : Nat → Int32 → Nat}
theorem yi_J {post : SY → Prop} (H : ye_H n K st sc L kd pa pb yt bi) (en : yn = nI n) {p f step : Nat} (hp : p < n) (hs : step < 100000) (hA : ∀ d, d + 1 < n → K (d + 1) = 8 → st d = p → ac (d + 1) = 1)
    (h : wY_interpret_119 post (wY_interpret_44 post f) (nI p) (nI step) yh yn yo ye yc kd pa pb yt bi ln sl cj ac ov) : wY_interpret_44 post (f + 1) (nI p) (nI step) yh yn yo ye yc kd pa pb yt bi ln sl cj ac ov := by
  have H1 := H.1
  refine br_f (nI_ge (b := 100000) hs (by decide)) (br_f (by rw [en]; exact nI_ge hp (by omega)) (br_f (nI_pos (by omega)) (ye_find H en hp (fun _ => br_t (by decide) h) (fun d hd kd e => ?_))))
  have e1 : (nI (d + 1)).toNatClampNeg = d + 1 := nI_clamp (by omega)
  refine br_f (nI_pos (by omega)) ⟨vp_in_nI (by omega) (by decide), ?_⟩
  rw [e1, hA d hd kd e]
  exact br_f (by decide) h
theorem yi_S0 {post : SY → Prop} (H : ye_H n K st sc L kd pa pb yt bi) (en : yn = nI n) {c a f step : Nat} (hc : c + 1 < n) (k : K (c + 1) = 8) (ea : st c = a + 1) (hs : step < 100000) (h0 : ac (c + 1) = 0) (h1 : ln a = 0)
    (h : wY_interpret_44 post f (nI (c + 2)) (nI (step + 1)) yh yn yo ye yc kd pa pb yt bi (upd ln (c + 1) 0) sl cj ac ov) : wY_interpret_44 post (f + 1) (nI (a + 1)) (nI step) yh yn yo ye yc kd pa pb yt bi ln sl cj ac ov := by
  have H1 := H.1
  have hst := sf_st_le H.2.1 c (by omega)
  refine br_f (nI_ge (b := 100000) hs (by decide)) (br_f (by rw [en]; exact nI_ge (by omega) (by omega)) (br_f (nI_pos (by omega)) (ye_find H en (by omega) (fun z => (z c hc k ea).elim) (fun d hd kd e => ?_))))
  have : d = c := sf_uniq H.2.1 hd hc kd k (by omega)
  subst this
  have e1 : (nI (d + 1)).toNatClampNeg = d + 1 := nI_clamp (by omega)
  refine br_f (nI_pos (by omega)) ⟨vp_in_nI (by omega) (by decide), ?_⟩
  rw [e1, h0]
  refine br_t rfl ⟨vp_in_nI (by omega) (by decide), nm_e ?_⟩
  rw [nI_pred]
  exact yu_lenOf (v := 0) (by omega) (by rw [pk_un (by omega)]; exact h1) (br_f (by decide) (nm_r (nI_1 (d + 1)) (nm_r (nI_1 step) h)))
theorem yi_S1 {post : SY → Prop} (H : ye_H n K st sc L kd pa pb yt bi) (en : yn = nI n) {c a m f step : Nat} (hc : c + 1 < n) (k : K (c + 1) = 8) (ea : st c = a + 1) (hs : step < 100000) (h0 : ac (c + 1) = 0) (hm : 0 < m) (hm' : m ≤ 216) (h1 : ln a = nI m)
    (h : wY_interpret_119 post (wY_interpret_44 post f) (nI (a + 1)) (nI step) yh yn yo ye yc kd pa pb yt bi (upd ln (c + 1) 0) sl (upd cj (c + 1) 0) (upd ac (c + 1) 1) ov) : wY_interpret_44 post (f + 1) (nI (a + 1)) (nI step) yh yn yo ye yc kd pa pb yt bi ln sl cj ac ov := by
  have H1 := H.1
  have hst := sf_st_le H.2.1 c (by omega)
  refine br_f (nI_ge (b := 100000) hs (by decide)) (br_f (by rw [en]; exact nI_ge (by omega) (by omega)) (br_f (nI_pos (by omega)) (ye_find H en (by omega) (fun z => (z c hc k ea).elim) (fun d hd kd e => ?_))))
  have : d = c := sf_uniq H.2.1 hd hc kd k (by omega)
  subst this
  have e1 : (nI (d + 1)).toNatClampNeg = d + 1 := nI_clamp (by omega)
  have hin : vp_in (nI (d + 1)) 16 := vp_in_nI (by omega) (by decide)
  refine br_f (nI_pos (by omega)) ⟨hin, ?_⟩
  rw [e1, h0]
  refine br_t rfl ⟨hin, nm_e ?_⟩
  rw [nI_pred]
  exact yu_lenOf (v := nI m) (by omega) (by rw [pk_un (by omega)]; exact h1) (br_t (nI_lt (a := 0) hm (by omega)) ⟨hin, nm_r (e' := upd ac (d + 1) 1) rfl ⟨hin, nm_r (e' := upd cj (d + 1) 0) rfl h⟩⟩)
theorem yi_E {post : SY → Prop} (H : ye_H n K st sc L kd pa pb yt bi) {p f step : Nat} {x : Int32} (hp : p < n) (hk : K p ≠ 8)
    (hc : 2 ≤ K p → ln (p - 1) = nI (L (p - 1) x).length ∧ sf_Hd sl ((p - 1) * 216) (L (p - 1) x))
    (hz : K p = 7 → ln (st (p - 1) - 1) = nI (L (st (p - 1) - 1) x).length ∧ sf_Hd sl ((st (p - 1) - 1) * 216) (L (st (p - 1) - 1) x))
    (he : sf_Env n K st sc p x sl cj)
    (h : wY_interpret_44 post f (nI (p + 1)) (nI (step + 1)) yh yn yo ye (yc + nI (L p x).length) kd pa pb yt bi (upd ln p (nI (L p x).length)) (sf_ap sl (p * 216) (L p x)) cj ac ov) : wY_interpret_119 post (wY_interpret_44 post f) (nI p) (nI step) yh yn yo ye yc kd pa pb yt bi ln sl cj ac ov := by
  have H1 := H.1
  have hk8 := ye_k8 H.2.1 hp
  have e1 : (nI p).toNatClampNeg = p := nI_clamp (by omega)
  have hin : vp_in (nI p) 16 := vp_in_nI (by omega) (by decide)
  refine And.intro hin ?_
  rw [e1, (H.2.2.2.2.2.2 p hp).1]
  refine br_f ?_ (ye_node H hp hk hc hz he ⟨hin, nm_r (e' := yc + nI (L p x).length) (by rw [pk_us]) (nm_r (nI_1 p) (nm_r (nI_1 step) h))⟩)
  intro z
  exact hk (sn_im (b := 8) z (by omega) (by decide))
theorem yi_C {post : SY → Prop} (H : ye_H n K st sc L kd pa pb yt bi) {c a j m f step : Nat} {l D : List Int32} (hc : c + 1 < n) (k : K (c + 1) = 8) (ea : st c = a + 1) (h1 : ln c = nI l.length) (hd : sf_Hd sl (c * 216) l) (h2 : ln (c + 1) = nI D.length) (hl : D.length + l.length ≤ 216) (hj : cj (c + 1) = nI j) (hm : ln a = nI m) (hm' : m ≤ 216) (hjm : j + 1 ≤ m)
    (hA : j + 1 < m → wY_interpret_44 post f (nI (a + 1)) (nI (step + 1)) yh yn yo ye yc kd pa pb yt bi (upd ln (c + 1) (nI (D.length + l.length))) (sf_ap sl ((c + 1) * 216 + D.length) l) (upd cj (c + 1) (nI (j + 1))) ac ov)
    (hB : j + 1 = m → wY_interpret_44 post f (nI (c + 2)) (nI (step + 1)) yh yn yo ye (yc + nI (D.length + l.length)) kd pa pb yt bi (upd ln (c + 1) (nI (D.length + l.length))) (sf_ap sl ((c + 1) * 216 + D.length) l) (upd cj (c + 1) (nI (j + 1))) (upd ac (c + 1) 0) ov) : wY_interpret_119 post (wY_interpret_44 post f) (nI (c + 1)) (nI step) yh yn yo ye yc kd pa pb yt bi ln sl cj ac ov := by
  have H1 := H.1
  have hst := sf_st_le H.2.1 c (by omega)
  have e1 : (nI (c + 1)).toNatClampNeg = c + 1 := nI_clamp (by omega)
  have hin : vp_in (nI (c + 1)) 16 := vp_in_nI (by omega) (by decide)
  have h0 : yt c = nI (a + 1) := by rw [(H.2.2.2.2.2.2 c (by omega)).2.1, ea]
  refine And.intro hin ?_
  rw [e1, (H.2.2.2.2.2.2 (c + 1) hc).1, k]
  exact br_t rfl (ye_step (by omega) (by omega) hl h0 h1 hd h2 hj hm hm' hjm (fun g => nm_r (nI_1 step) (hA g)) (fun g => nm_r (nI_1 step) (hB g)))
theorem yi_MI {post : SY → Prop} (H : ye_H n K st sc L kd pa pb yt bi) (en : yn = nI n) : sf_MI n K st sc L
    (fun f step p ln sl cj ac co => wY_interpret_44 post f (nI p) (nI step) yh yn yo ye (co) kd pa pb yt bi ln sl cj ac ov) (fun f step p ln sl cj ac co => wY_interpret_119 post (wY_interpret_44 post f) (nI p) (nI step) yh yn yo ye (co) kd pa pb yt bi ln sl cj ac ov) := by
  refine ⟨?_, ?_, ?_, ?_, ?_, ?_⟩
  · intro p hp f step ln sl cj ac co hs hA h
    exact yi_J H en hp hs hA h
  · intro c a hc k ea f step ln sl cj ac co hs h0 h1 h
    exact yi_S0 H en hc k ea hs h0 h1 h
  · intro c a m hc k ea f step ln sl cj ac co hs h0 hm hm' h1 h
    exact yi_S1 H en hc k ea hs h0 hm hm' h1 h
  · intro p hp hk x f step ln sl cj ac co hs hc hz he h
    exact yi_E H hp hk hc hz he h
  · intro c a hc k ea l D j m f step ln sl cj ac co hs h1 hd h2 hl hj hm hm' hjm h
    exact yi_C H hc k ea h1 hd h2 hl hj hm hm' (by omega) (fun _ => h) (fun g => by omega)
  · intro c a hc k ea l D j m f step ln sl cj ac co hs h1 hd h2 hl hj hm hm' hjm h
    exact yi_C H hc k ea h1 hd h2 hl hj hm hm' (by omega) (fun g => by omega) (fun _ => h)
def yi_z (f : Nat → Int32) (i : Nat) : Nat → Int32 := fun j => if j < i then 0 else f j
theorem yi_z0 (f : Nat → Int32) : yi_z f 0 = f := by
  funext j
  unfold yi_z
  rw [if_neg (Nat.not_lt_zero j)]
theorem yi_zs (f : Nat → Int32) (i : Nat) : upd (yi_z f i) i 0 = yi_z f (i + 1) := by
  funext j
  unfold upd yi_z
  by_cases e : j = i
  · rw [if_pos e, if_pos (by omega)]
  · rw [if_neg e]
    by_cases g : j < i
    · rw [if_pos g, if_pos (by omega)]
    · rw [if_neg g, if_neg (by omega)]
theorem yi_reset {post : SY → Prop} (h : ∃ n44 : Nat, wY_interpret_44 post n44 0 0 yh yn yo ye (0) kd pa pb yt bi (yi_z ln 16) sl (yi_z cj 16) (yi_z ac 16) ov) :
    ∀ k i, i + k = 16 → wY_interpret_2 post yh yn yo ye yc (k + 1) (nI i) kd pa pb yt bi (yi_z ln i) sl (yi_z cj i) (yi_z ac i) ov := by
  intro k
  induction k with
  | zero =>
    intro i hi
    have : i = 16 := by omega
    subst this
    exact br_t (by decide) h
  | succ k ih =>
    intro i hi
    have e1 : (nI i).toNatClampNeg = i := nI_clamp (by omega)
    have hin : vp_in (nI i) 16 := vp_in_nI (by omega) (by decide)
    exact br_f (nI_ge (b := 16) (by omega) (by decide)) ⟨hin, nm_r (e' := yi_z ac (i + 1)) (by rw [e1]; exact yi_zs ac i) ⟨hin, nm_r (e' := yi_z ln (i + 1)) (by rw [e1]; exact yi_zs ln i) ⟨hin, nm_r (e' := yi_z cj (i + 1)) (by rw [e1]; exact yi_zs cj i) (nm_r (nI_1 i) (ih (i + 1) (by omega)))⟩⟩⟩
theorem yi_run {post : SY → Prop} (H : ye_H n K st sc L kd pa pb yt bi) (en : yn = nI n) (hn : 1 ≤ n) (hst : st (n - 1) = 0) (hsc : sc (n - 1) = 0) (hC : sf_Co n K st L C)
    (h : ∀ ln' sl' cj' ac', ln' (n - 1) = nI (L (n - 1) 0).length → sf_Hd sl' ((n - 1) * 216) (L (n - 1) 0) → post (yh, yn, yo, ye, nI (C (n - 1) 0), kd, pa, pb, yt, bi, ln', sl', cj', ac', ov)) : wpY_interpret post (yh, yn, yo, ye, yc, kd, pa, pb, yt, bi, ln, sl, cj, ac, ov) := by
  have H1 := H.1
  have M := yi_MI (post := post) (yh := yh) (yo := yo) (ye := ye) (ov := ov) H en
  have hm := sf_mach H.2.1 H.2.2.1 H.2.2.2.2.2.1 H.2.2.2.2.1 H.2.2.2.1 hC M (n - 1) (by omega) 0 (yi_z ln 16) sl (yi_z cj 16) (yi_z ac 16) 0 (fun q _ hq => if_pos (by omega)) ⟨fun _ => rfl, fun d hd kd e => by
    obtain ⟨a, ea, _⟩ := ye_pos H.2.1 hd (by omega)
    omega⟩
  obtain ⟨ln', sl', cj', ac', k, q1, q2, q3, q4, q5, q6⟩ := hm
  have hb : k + 1 ≤ 16 * 216 := by
    have g1 : (n - 1 + 1 - st (n - 1)) * 6 ^ sf_g K st (n - 1) ≤ 16 * 216 := Nat.mul_le_mul (by omega) (sf_216 (sf_g3 K st _))
    omega
  have h2 := q6 1 0 (by omega) (by
    rw [Int32.zero_add, show n - 1 + 1 = n from by omega]
    exact br_f (nI_ge (b := 100000) (by omega) (by decide)) (br_t (by rw [en]; exact nI_le (Nat.le_refl _) (by omega)) (h ln' sl' cj' ac' q1 q2)))
  rw [hst] at h2
  have h3 := M.1 0 (by omega) _ 0 _ _ _ _ _ (by decide) (fun d hd kd e => by
    obtain ⟨a, ea, _⟩ := ye_pos H.2.1 hd (by omega)
    omega) h2
  have := yi_reset (yc := yc) (ac := ac) (ln := ln) (cj := cj) ⟨_, h3⟩ 16 0 (by omega)
  rw [yi_z0, yi_z0, yi_z0] at this
  exact ⟨17, this⟩
end YI

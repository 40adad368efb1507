/-! the owed statement: run -/
section VR
variable {yh yn yo ye yc : Int32} {kd pa pb yt bi ln sl cj ac ov : Nat → Int32}
theorem vr_copy_l {post : Int32 → SY → Prop} {x1 : Int32} {p : Nat} {l : List Int32} (hp : p < 16) (hl : l.length ≤ 216) (hv : sf_Hd sl (p * 216) l) (h : (x1 = 1 → post 0 (yh, yn, nI l.length, yc, yc, kd, pa, pb, yt, bi, ln, sl, cj, ac, sf_ap ov 0 l)) ∧ (¬ x1 = 1 → post 0 (yh, yn, nI l.length, 0, yc, kd, pa, pb, yt, bi, ln, sl, cj, ac, sf_ap ov 0 l))) :
    ∀ k i, i + k = l.length → wY_run_99 post x1 (nI p) (nI l.length) yh yn yo ye yc (k + 1) (nI i) kd pa pb yt bi ln sl cj ac (sf_ap ov 0 (l.take i)) := by
  intro k
  induction k with
  | zero =>
    intro i hi
    have : i = l.length := by omega
    subst this
    rw [sf_take_all]
    exact br_t (nI_le (Nat.le_refl _) (by omega)) h
  | succ k ih =>
    intro i hi
    obtain ⟨v, hv'⟩ := sf_ex (l := l) (i := i) (by omega)
    have e1 : (nI i).toNatClampNeg = i := nI_clamp (by omega)
    refine br_f (nI_ge (by omega) (by omega)) (yu_cell (v := v) hp (by omega) (hv i v hv') ⟨vp_in_nI (by omega) (by decide), nm_r (e' := sf_ap ov 0 (l.take (i + 1))) ?_ (nm_r (nI_1 i) (ih (i + 1) (by omega)))⟩)
    rw [e1, sf_take_s hv']
    have := sf_ap_snoc ov 0 (l.take i) v
    rw [sf_tl (by omega), Nat.zero_add] at this
    exact this
theorem vr_copy {post : Int32 → SY → Prop} {x1 : Int32} {p : Nat} {l : List Int32} (hp : p < 16) (hl : l.length ≤ 216) (hln : ln p = nI l.length) (hv : sf_Hd sl (p * 216) l) (h : (x1 = 1 → post 0 (yh, yn, nI l.length, yc, yc, kd, pa, pb, yt, bi, ln, sl, cj, ac, sf_ap ov 0 l)) ∧ (¬ x1 = 1 → post 0 (yh, yn, nI l.length, 0, yc, kd, pa, pb, yt, bi, ln, sl, cj, ac, sf_ap ov 0 l))) : wY_run_79 post x1 (nI p) yh yn yo ye yc kd pa pb yt bi ln sl cj ac ov := by
  have := vr_copy_l (yo := yo) (ye := ye) hp hl hv h l.length 0 (by omega)
  rw [List.take_zero, sf_ap_nil] at this
  unfold wY_run_79
  exact yu_lenOf (v := nI l.length) hp hln (br_t (nI_le (b := 256) (by omega) (by decide)) ⟨_, this⟩)
end VR
section VR2
variable {xh xn xd xr xl : Int32} {ki op ar lo so sz cc on vs ss ts re : Nat → Int32}
variable {yh yn yo ye yc : Int32} {kd pa pb yt bi ln sl cj ac ov : Nat → Int32} {n : Nat} {K st sc R : Nat → Nat}
theorem vr_main {k : Nat} {x1 : Int32} (P : sf_PF n 1 K st sc R) (E : rl_Re n 1 K st sc R (xh, xn, xd, xr, xl, ki, op, ar, lo, so, sz, cc, on, vs, ss, ts, re) (yh, yn, yo, ye, yc, kd, pa, pb, yt, bi, ln, sl, cj, ac, ov)) (ho : on 0 = 0) {G : Int32 → SX → Prop} (hG : ∀ r u', wY_run_11 (fun r' v' => r' = r ∧ i_Rel (k + 3) u' v') x1 yh yn yo ye yc kd pa pb yt bi ln sl cj ac ov → G r u') : wX_run_11 G x1 xh xn xd xr xl ki op ar lo so sz cc on vs ss ts re := by
  have hy := vc_st E
  have hkd := vc_kd P E
  have P' := P
  obtain ⟨P1, P2, P3, P4, P5, P6, P7⟩ := P
  obtain ⟨q1, q2, q3⟩ := P7 0 (by omega)
  rw [P6, P5] at q1 q2
  rw [P6] at q3
  have E' := E
  obtain ⟨E1, E2, E3, E4, E5, E6, E7, E8, E9, E10, E11, E12⟩ := E
  obtain ⟨L, hL⟩ := sf_exL P2 pa pb
  obtain ⟨ro, hr⟩ := sf_exR P2 P3 L
  obtain ⟨C, hC⟩ := sf_exC P2 L
  have hb := sf_bnd P2 hL P4 E7 P3 hr (n - 1) (by omega) (by
    rw [q3]
    show 1 * _ ≤ 216
    rw [Nat.one_mul]
    exact sf_216 (sf_g3 K st _))
  have hb' : ∀ q, q < n → (sf_E ro (sc q)).length * 6 ^ sf_g K st q ≤ 216 := fun q hq => hb q (by omega) (by omega)
  have hB : ∀ q, q < n → ((sf_E ro (sc q)).flatMap (L q)).length ≤ 216 := by
    intro q hq
    have := sf_row_le P2 hL P4 E7 hr hq
    rw [hr q hq] at this
    exact Nat.le_trans this (hb' q hq)
  have hE : ∀ q, q < n → (sf_E ro (sc q)).length ≤ 216 := fun q hq => Nat.le_trans (Nat.le_mul_of_pos_right _ (Nat.pow_pos (by omega))) (hb' q hq)
  have HX : xe_H n K st sc pa pb L ro ki op ar lo so := ⟨P1, P2, hL, P3, E7, hr, hB, hE, E5⟩
  have HY : ye_H n K st sc L kd pa pb yt bi := ⟨P1, P2, hL, P3, E7, P4, E6⟩
  have hrow : ro (n - 1) = L (n - 1) 0 := by
    rw [hr (n - 1) (by omega), q3]
    show [(0 : Int32)].flatMap (L (n - 1)) = _
    rw [List.flatMap_cons, List.flatMap_nil, List.append_nil]
  have hcost : sf_rs (fun q => (ro q).length) 0 n = C (n - 1) 0 := by
    have := sf_cost P2 hL P3 hr hC (n - 1) (by omega)
    rw [q2, q3, show n - 1 + 1 = n from by omega] at this
    rw [← this]
    show C (n - 1) 0 + 0 = _
    exact Nat.add_zero _
  have hlen : (L (n - 1) 0).length ≤ 216 := ye_len HY (by omega) 0
  have hno : ¬ sf_opn K sc 0 n := by
    intro z
    have := (E8 0 (by omega)).2.2.1
    rw [P5, P6, ho] at this
    exact absurd (this z) (by decide)
  have f1 : yn - 1 = nI (n - 1) := by rw [E3]; exact sn_p1 (by omega)
  have f2 : ∀ z : Int32, z = nI n → z - 1 = nI (n - 1) := fun z e => by rw [e]; exact sn_p1 (by omega)
  refine br_t E4 (br_t ho (xe_pipe HX E2 E10 E9 (fun vs' ss' ts' hI => ?_)))
  rw [hcost]
  have hXn := sf_XI_E hr (Nat.le_refl n) hI (s := n) (Nat.le_refl n)
  have hEn : sf_E ro n = L (n - 1) 0 := by
    obtain ⟨m, rfl⟩ : ∃ m, n = m + 1 := ⟨n - 1, by omega⟩
    exact hrow
  rw [hEn] at hXn
  have hYrun : ∀ (r : Int32) (u' : SX), (∀ ln' sl' cj' ac', ln' (n - 1) = nI (L (n - 1) 0).length → sf_Hd sl' ((n - 1) * 216) (L (n - 1) 0) → ((x1 = 1 → ((nI (C (n - 1) 0) ≤ yh → wY_run_79 (fun r' v' => r' = r ∧ i_Rel (k + 3) u' v') x1 (nI (n - 1)) yh yn yo ye (nI (C (n - 1) 0)) kd pa pb yt bi (ln') (sl') (cj') (ac') ov) ∧ (¬ nI (C (n - 1) 0) ≤ yh → (7 : Int32) = r ∧ i_Rel (k + 3) u' (yh, yn, 0, 0, nI (C (n - 1) 0), kd, pa, pb, yt, bi, ln', sl', cj', ac', ov)))) ∧ (¬ x1 = 1 → wY_run_79 (fun r' v' => r' = r ∧ i_Rel (k + 3) u' v') x1 (nI (n - 1)) yh yn yo ye (nI (C (n - 1) 0)) kd pa pb yt bi (ln') (sl') (cj') (ac') ov))) → G r u' := by
    intro r u' h
    refine hG r u' ?_
    unfold wY_run_11
    refine ys_depth P' E3 hy (br_t rfl ?_)
    rw [f1]
    refine ys_op (K := K) (sc := sc) (a := 0) (by omega) (by omega) (fun p hp => hkd p (by omega)) (fun z => ?_) (fun z => br_t rfl (yi_run HY E3 (by omega) q2 q3 hC (fun ln' sl' cj' ac' g1 g2 => nm_r (f2 yn E3) (h ln' sl' cj' ac' g1 g2))))
    rw [show n - 1 + 1 = n from by omega] at z
    exact (hno z).elim
  have hrel : ∀ (vs' ss' ts' : Nat → Int32) (m1 m2 : Int32) (l : List Int32) (re' ov' : Nat → Int32) (yc' : Int32) (ln' sl' cj' ac' : Nat → Int32), vs' 0 = 0 → ts' 0 = 1 → l.length ≤ 216 → m1 = m2 → (∀ i, i < l.length → re' i = ov' i) →
      i_Rel (k + 3) (xh, xn, xd, nI l.length, m1, ki, op, ar, lo, so, sz, cc, on, vs', ss', ts', re') (yh, yn, nI l.length, m2, yc', kd, pa, pb, yt, bi, ln', sl', cj', ac', ov') := by
    intro vs' ss' ts' m1 m2 l re' ov' yc' ln' sl' cj' ac' g1 g2 g3 g4 g5
    exact ⟨n, 1, K, st, sc, R, P', E1, E2, E3, E4, E5, E6, E7, E8, g1, g2, g4, l.length, g3, rfl, rfl, g5⟩
  have hap : ∀ (re ov : Nat → Int32) (l : List Int32) i, i < l.length → sf_ap re 0 l i = sf_ap ov 0 l i := by
    intro re ov l i hi
    obtain ⟨x, hx⟩ := sf_ex hi
    have a := sf_ap_in re (b := 0) hx
    have b := sf_ap_in ov (b := 0) hx
    rw [Nat.zero_add] at a b
    rw [a, b]
  have hkeep : ∀ post : SX → Prop, post (xh, xn, xd, nI (L (n - 1) 0).length, xl, ki, op, ar, lo, so, sz, cc, on, vs', ss', ts', sf_ap re 0 (L (n - 1) 0)) → wpX_keepResult post (xh, xn, xd, xr, xl, ki, op, ar, lo, so, sz, cc, on, vs', ss', ts', re) := by
    intro post h
    exact xe_keep P1 E2 hlen hXn.1 hXn.2 h
  refine br_c (fun z => br_c (fun g => ?_) (fun g => ?_)) (fun z => ?_)
  · unfold wX_run_62
    refine hkeep _ (br_t z (hYrun 0 _ (fun ln' sl' cj' ac' g1 g2 => br_t z (br_t (E1 ▸ g) (vr_copy (by omega) hlen g1 g2 (br_t z ⟨rfl, ?_⟩))))))
    exact hrel vs' ss' ts' _ _ (L (n - 1) 0) _ _ _ ln' sl' cj' ac' hI.2.1 hI.1 hlen rfl (hap _ _ _)
  · refine hYrun 7 _ (fun ln' sl' cj' ac' g1 g2 => br_t z (br_f (E1 ▸ g) ⟨rfl, ?_⟩))
    exact hrel vs' ss' ts' 0 0 [] re ov _ ln' sl' cj' ac' hI.2.1 hI.1 (by decide) rfl (fun i hi => absurd hi (Nat.not_lt_zero i))
  · unfold wX_run_62
    refine hkeep _ (br_f z (hYrun 0 _ (fun ln' sl' cj' ac' g1 g2 => br_f z (vr_copy (by omega) hlen g1 g2 (br_f z ⟨rfl, ?_⟩)))))
    exact hrel vs' ss' ts' _ _ (L (n - 1) 0) _ _ _ ln' sl' cj' ac' hI.2.1 hI.1 hlen rfl (hap _ _ _)
end VR2
theorem i_vc_run {k : Nat} {u : SX} {v : SY} (I : i_Rel k u v) (hk : k + 3 ≤ 1537) (v1 : Int32) : wpX_run (fun r u' => wpY_run (fun r' v' => r' = r ∧ i_Rel (k + 3) u' v') v v1) u v1 := by
  have I' := I
  obtain ⟨xh, xn, xd, xr, xl, ki, op, ar, lo, so, sz, cc, on, vs, ss, ts, re⟩ := u
  obtain ⟨yh, yn, yo, ye, yc, kd, pa, pb, yt, bi, ln, sl, cj, ac, ov⟩ := v
  obtain ⟨n, d, K, st, sc, R, P, E⟩ := I
  have hn := P.1
  have hd := sf_d_le P
  have hy := vc_st E
  have hkd := vc_kd P E
  have E' := E
  obtain ⟨E1, E2, E3, E4, E5, E6, E7, E8, E9⟩ := E
  have key : ∀ G : Int32 → SX → Prop, (∀ r u', wY_run_11 (fun r' v' => r' = r ∧ i_Rel (k + 3) u' v') v1 yh yn yo ye yc kd pa pb yt bi ln sl cj ac ov → G r u') → wX_run_11 G v1 xh xn xd xr xl ki op ar lo so sz cc on vs ss ts re := by
    intro G hG
    by_cases g : d = 1
    · subst g
      by_cases z : on 0 = 0
      · exact vr_main P E' z hG
      · refine br_t E4 (br_f z ?_)
        have hop : sf_opn K sc 0 n := by
          apply Classical.byContradiction
          intro c
          have := (E8 0 (by omega)).2.2.2
          rw [P.2.2.2.2.1, P.2.2.2.2.2.1] at this
          exact z (this c)
        have hn1 : 1 ≤ n := by omega
        have f1 : yn - 1 = nI (n - 1) := by rw [E3]; exact sn_p1 hn1
        refine hG _ _ ?_
        unfold wY_run_11
        refine ys_depth P E3 hy (br_t rfl ?_)
        rw [f1]
        refine ys_op (K := K) (sc := sc) (a := 0) (by omega) (by omega) (fun p hp => hkd p (by omega)) (fun _ => br_f (by decide) ⟨rfl, I'⟩) (fun c => ?_)
        rw [show n - 1 + 1 = n from by omega] at c
        exact (c hop).elim
    · have g' : ¬ xd = 1 := by
        rw [E4]
        intro z
        exact g (sn_im (b := 1) z (by omega) (by decide))
      refine br_f g' (hG _ _ ?_)
      unfold wY_run_11
      exact ys_depth P E3 hy (br_f (E4 ▸ g') ⟨rfl, I'⟩)
  refine br_c (fun z => ?_) (fun z => br_c (fun z' => ?_) (fun z' => br_f z (br_f z' ⟨rfl, I'⟩)))
  · exact key _ (fun r u' h => br_t z h)
  · exact key _ (fun r u' h => br_f z (br_t z' h))

/-! the reference's stack, read off the starts of the fragments -/
section YS
variable {yh yn yo ye yc : Int32} {kd pa pb yt bi ln sl cj ac ov : Nat → Int32} {n d : Nat} {K st sc R : Nat → Nat}
theorem ys_depth_l {post : Int32 → Prop} (P : sf_PF n d K st sc R) (hy : ∀ p, p < n → yt p = nI (st p)) (h : post (nI d)) :
    ∀ k i, i + k = d → ∀ x, (0 < k → x = nI (R k - 1)) → (k = 0 → x = -1) → wY_depth_11 post yh yn yo ye yc kd pa pb yt bi ln sl cj ac ov (k + 1) (nI i) x (nI i) := by
  have hd := sf_d_le P
  have hn := P.1
  intro k
  induction k with
  | zero =>
    intro i hi x _ hx
    have : i = d := by omega
    subst this
    rw [hx rfl]
    by_cases h16 : 16 ≤ i
    · exact br_t (nI_le (a := 16) h16 (by omega)) h
    · exact br_f (nI_ge (b := 16) (by omega) (by decide)) (br_t (by decide) h)
  | succ k ih =>
    intro i hi x hx _
    obtain ⟨q1, q2, q3⟩ := P.2.2.2.2.2.2 k (by omega)
    have hR := sf_R_le P (i := k + 1) (by omega)
    rw [hx (by omega)]
    have e1 : (nI (R (k + 1) - 1)).toNatClampNeg = R (k + 1) - 1 := nI_clamp (by omega)
    have hRk := sf_R_ge P k (by omega)
    refine br_f (nI_ge (b := 16) (by omega) (by decide)) (br_f (nI_pos (by omega)) (nm_r (nI_1 i) ⟨vp_in_nI (by omega) (by decide), nm_e (nm_r (nI_1 i) (ih (i + 1) (by omega) _ (fun hk => ?_) (fun hk => ?_)))⟩))
    · rw [e1, hy _ (by omega), q2]
      exact sn_p1 (by omega)
    · subst hk
      rw [e1, hy _ (by omega), q2, P.2.2.2.2.1]
      decide
theorem ys_depth {post : Int32 → Prop} (P : sf_PF n d K st sc R) (en : yn = nI n) (hy : ∀ p, p < n → yt p = nI (st p)) (h : post (nI d)) : wpY_depth post (yh, yn, yo, ye, yc, kd, pa, pb, yt, bi, ln, sl, cj, ac, ov) := by
  refine nm_e ⟨d + 1, ys_depth_l P hy h d 0 (by omega) _ (fun hk => ?_) (fun hk => ?_)⟩
  · rw [en, P.2.2.2.2.2.1]
    have := sf_d_le P
    exact sn_p1 (by omega)
  · have e := P.2.2.2.2.2.1
    have e0 := P.2.2.2.2.1
    subst hk
    rw [en, ← e, e0]
    decide
theorem ys_root_l {post : Int32 → Prop} {j : Nat} (P : sf_PF n d K st sc R) (hy : ∀ p, p < n → yt p = nI (st p)) (hj : j < d) (h : post (nI (R (j + 1) - 1))) :
    ∀ k, j + k < d → wY_rootOf_17 post (nI j) yh yn yo ye yc kd pa pb yt bi ln sl cj ac ov (k + 1) (nI (R (j + k + 1) - 1)) (nI (j + k)) := by
  have hd := sf_d_le P
  have hn := P.1
  intro k
  induction k with
  | zero =>
    intro hk
    exact br_t (nI_le (Nat.le_refl _) (by omega)) h
  | succ k ih =>
    intro hk
    obtain ⟨q1, q2, q3⟩ := P.2.2.2.2.2.2 (j + (k + 1)) hk
    have hR := sf_R_le P (i := j + (k + 1) + 1) (by omega)
    have hRk := sf_R_ge P (j + (k + 1)) (by omega)
    have e1 : (nI (R (j + (k + 1) + 1) - 1)).toNatClampNeg = R (j + (k + 1) + 1) - 1 := nI_clamp (by omega)
    refine br_f (nI_ge (by omega) (by omega)) (br_f (nI_pos (by omega)) ⟨vp_in_nI (by omega) (by decide), nm_r (e' := nI (R (j + k + 1) - 1)) ?_ (nm_r (e' := nI (j + k)) ?_ (ih (by omega)))⟩)
    · rw [e1, hy _ (by omega), q2]
      exact sn_p1 (by omega)
    · exact pk_m1 (j + k)
theorem ys_root {post : Int32 → Prop} {j : Nat} (P : sf_PF n d K st sc R) (en : yn = nI n) (hy : ∀ p, p < n → yt p = nI (st p)) (hj : j < d) (h : post (nI (R (j + 1) - 1))) : wpY_rootOf post (yh, yn, yo, ye, yc, kd, pa, pb, yt, bi, ln, sl, cj, ac, ov) (nI j) := by
  have hd := sf_d_le P
  have hn := P.1
  unfold wpY_rootOf
  refine ys_depth P en hy (nm_r (e' := nI (R (j + (d - 1 - j) + 1) - 1)) ?_ (nm_r (e' := nI (j + (d - 1 - j))) ?_ ⟨_, ys_root_l P hy hj h (d - 1 - j) (by omega)⟩))
  · rw [en, show j + (d - 1 - j) + 1 = d from by omega, P.2.2.2.2.2.1]
    exact sn_p1 (by omega)
  · rw [show j + (d - 1 - j) = d - 1 from by omega]
    exact sn_p1 (by omega)
theorem ys_cn_l {post : Int32 → Prop} {a b : Nat} (hn : b < 16) (hk : ∀ p, p ≤ b → kd p = nI (K p) ∧ K p ≤ 8) (h : post (nI (sf_cn K a (b + 1)))) :
    ∀ k i, i + k = b + 1 → a ≤ i → wY_concatsIn_5 post (nI b) yh yn yo ye yc kd pa pb yt bi ln sl cj ac ov (k + 1) (nI (sf_cn K a i)) (nI i) := by
  intro k
  induction k with
  | zero =>
    intro i hi ha
    have : i = b + 1 := by omega
    subst this
    exact br_t (nI_lt (by omega) (by omega)) h
  | succ k ih =>
    intro i hi ha
    have e1 : (nI i).toNatClampNeg = i := nI_clamp (by omega)
    obtain ⟨k1, k2⟩ := hk i (by omega)
    have ihs := ih (i + 1) (by omega) (by omega)
    rw [sf_cn_s] at ihs
    refine br_f (nI_nlt (by omega) (by omega)) (br_f (nI_ge (b := 16) (by omega) (by decide)) (br_f (nI_pos (by omega)) ⟨vp_in_nI (by omega) (by decide), ?_⟩))
    rw [e1, k1]
    refine pk_eq (K i) 8 (fun k8 => ?_) (fun k8 => ?_)
    · rw [if_pos ⟨ha, k8⟩] at ihs
      exact nm_r (nI_1 _) (nm_r (nI_1 i) ihs)
    · rw [if_neg (by omega), Nat.add_zero] at ihs
      exact nm_r (nI_1 i) ihs
theorem ys_cn {post : Int32 → Prop} {a b : Nat} (hn : b < 16) (hab : a ≤ b) (hk : ∀ p, p ≤ b → kd p = nI (K p) ∧ K p ≤ 8) (h : post (nI (sf_cn K a (b + 1)))) : wpY_concatsIn post (yh, yn, yo, ye, yc, kd, pa, pb, yt, bi, ln, sl, cj, ac, ov) (nI a) (nI b) := by
  have := ys_cn_l (yh := yh) (yn := yn) (yo := yo) (ye := ye) (yc := yc) (pa := pa) (pb := pb) (yt := yt) (bi := bi) (ln := ln) (sl := sl) (cj := cj) (ac := ac) (ov := ov) hn hk h (b + 1 - a) a (by omega) (by omega)
  rw [sf_cn_0 a (Nat.le_refl _)] at this
  exact ⟨_, this⟩
theorem ys_op_l {post : Int32 → Prop} {a b : Nat} (hn : b < 16) (hk : ∀ p, p ≤ b → kd p = nI (K p) ∧ K p ≤ 8 ∧ (K p = 1 → (bi p = -1 ↔ sc p = 0))) (h1 : sf_opn K sc a (b + 1) → post 1) (h0 : ¬ sf_opn K sc a (b + 1) → post 0) :
    ∀ k i, i + k = b + 1 → a ≤ i → (∀ q, a ≤ q → q < i → ¬ (K q = 1 ∧ sc q = 0)) → wY_openIn_2 post (nI b) yh yn yo ye yc kd pa pb yt bi ln sl cj ac ov (k + 1) (nI i) := by
  intro k
  induction k with
  | zero =>
    intro i hi ha hno
    have : i = b + 1 := by omega
    subst this
    exact br_t (nI_lt (by omega) (by omega)) (h0 (fun ⟨q, g1, g2, g3, g4⟩ => hno q g1 g2 ⟨g3, g4⟩))
  | succ k ih =>
    intro i hi ha hno
    have e1 : (nI i).toNatClampNeg = i := nI_clamp (by omega)
    have hin : vp_in (nI i) 16 := vp_in_nI (by omega) (by decide)
    obtain ⟨k1, k2, k3⟩ := hk i (by omega)
    refine br_f (nI_nlt (by omega) (by omega)) (br_f (nI_ge (b := 16) (by omega) (by decide)) (br_f (nI_pos (by omega)) ⟨hin, ?_⟩))
    rw [e1, k1]
    refine pk_eq (K i) 1 (fun g => ⟨hin, br_c (fun z => h1 ⟨i, ha, by omega, g, (k3 g).mp z⟩) (fun z => nm_r (nI_1 i) (ih (i + 1) (by omega) (by omega) (fun q q1 q2 q3 => ?_)))⟩) (fun g => nm_r (nI_1 i) (ih (i + 1) (by omega) (by omega) (fun q q1 q2 q3 => ?_)))
    · by_cases eq : q = i
      · rw [eq] at q3; exact z ((k3 g).mpr q3.2)
      · exact hno q q1 (by omega) q3
    · by_cases eq : q = i
      · rw [eq] at q3; exact g q3.1
      · exact hno q q1 (by omega) q3
theorem ys_op {post : Int32 → Prop} {a b : Nat} (hn : b < 16) (hab : a ≤ b) (hk : ∀ p, p ≤ b → kd p = nI (K p) ∧ K p ≤ 8 ∧ (K p = 1 → (bi p = -1 ↔ sc p = 0))) (h1 : sf_opn K sc a (b + 1) → post 1) (h0 : ¬ sf_opn K sc a (b + 1) → post 0) : wpY_openIn post (yh, yn, yo, ye, yc, kd, pa, pb, yt, bi, ln, sl, cj, ac, ov) (nI a) (nI b) :=
  ⟨_, ys_op_l hn hk h1 h0 (b + 1 - a) a (by omega) (by omega) (fun q g1 g2 => by omega)⟩
end YS

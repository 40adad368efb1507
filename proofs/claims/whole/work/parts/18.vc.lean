/-! the owed statements: building calls and readers -/
theorem i_vc0 (k0 : Int32) : wpX_init (fun u => wpY_init (fun v => i_Rel 1 u v) k0) k0 := by
  have key : ∀ h : Int32, i_Rel 1 (h, 0, 0, 0, 0, (fun _ => 0), (fun _ => 0), (fun _ => 0), (fun _ => 0), (fun _ => 0), (fun _ => 0), (fun _ => 0), (fun _ => 0), (fun _ => 0), (fun _ => 0), upd (fun _ => 0) 0 1, (fun _ => 0)) (h, 0, 0, 0, 0, (fun _ => 0), (fun _ => 0), (fun _ => 0), (fun _ => 0), (fun _ => 0), (fun _ => 0), (fun _ => 0), (fun _ => 0), (fun _ => 0), (fun _ => 0)) := by
    intro h
    refine ⟨0, 0, fun _ => 0, fun _ => 0, fun _ => 0, fun _ => 0, ⟨by omega, fun p hp => absurd hp (Nat.not_lt_zero p), ⟨fun p hp => absurd hp (Nat.not_lt_zero p), fun c hc => absurd hc (Nat.not_lt_zero _)⟩, fun p hp => absurd hp (Nat.not_lt_zero p), rfl, rfl, fun i hi => absurd hi (Nat.not_lt_zero i)⟩, rfl, rfl, rfl, rfl, fun p hp => absurd hp (Nat.not_lt_zero p), fun p hp => absurd hp (Nat.not_lt_zero p), fun p hp => absurd hp (Nat.not_lt_zero p), fun i hi => absurd hi (Nat.not_lt_zero i), rfl, rfl, rfl, 0, by omega, rfl, rfl, fun i hi => absurd hi (Nat.not_lt_zero i)⟩
  unfold wpX_init
  refine br_c (fun h8 => br_c (fun h => nm_e (br_t h8 (br_t h (key k0)))) (fun h => nm_e (br_t h8 (br_f h (key 256))))) (fun h8 => nm_e (br_f h8 (br_t (by decide) (key 8))))
section VC
variable {xh xn xd xr xl : Int32} {ki op ar lo so sz cc on vs ss ts re : Nat → Int32}
variable {yh yn yo ye yc : Int32} {kd pa pb yt bi ln sl cj ac ov : Nat → Int32} {n d : Nat} {K st sc R : Nat → Nat}
theorem vc_st (E : rl_Re n d K st sc R (xh, xn, xd, xr, xl, ki, op, ar, lo, so, sz, cc, on, vs, ss, ts, re) (yh, yn, yo, ye, yc, kd, pa, pb, yt, bi, ln, sl, cj, ac, ov)) : ∀ p, p < n → yt p = nI (st p) := fun p hp => (E.2.2.2.2.2.1 p hp).2.1
theorem vc_kd (P : sf_PF n d K st sc R) (E : rl_Re n d K st sc R (xh, xn, xd, xr, xl, ki, op, ar, lo, so, sz, cc, on, vs, ss, ts, re) (yh, yn, yo, ye, yc, kd, pa, pb, yt, bi, ln, sl, cj, ac, ov)) : ∀ p, p < n → kd p = nI (K p) ∧ K p ≤ 8 ∧ (K p = 1 → (bi p = -1 ↔ sc p = 0)) := by
  intro p hp
  obtain ⟨N1, N2, N3⟩ := E.2.2.2.2.2.1 p hp
  refine ⟨N1, ye_k8 P.2.1 hp, fun k1 => ?_⟩
  rcases N3 k1 with ⟨g1, g2⟩ | ⟨e, g1, g2, g3, g4⟩
  · exact ⟨fun _ => g1, fun _ => g2⟩
  · obtain ⟨a, ea, _⟩ := ye_pos P.2.1 g1 (by omega)
    have hn := P.1
    exact ⟨fun z => (sn_neg1 (a := e + 1) (by omega) (g4.symm.trans z)).elim, fun z => by omega⟩
end VC
theorem i_vc_range {k : Nat} {u : SX} {v : SY} (I : i_Rel k u v) (hk : k + 3 ≤ 1537) (v1 : Int32) (v2 : Int32) : wpX_range (fun r u' => wpY_range (fun r' v' => r' = r ∧ i_Rel (k + 3) u' v') v v1 v2) u v1 v2 := by
  have I' := I
  obtain ⟨xh, xn, xd, xr, xl, ki, op, ar, lo, so, sz, cc, on, vs, ss, ts, re⟩ := u
  obtain ⟨yh, yn, yo, ye, yc, kd, pa, pb, yt, bi, ln, sl, cj, ac, ov⟩ := v
  obtain ⟨n, d, K, st, sc, R, P, E⟩ := I
  have hn := P.1
  have hd := sf_d_le P
  obtain ⟨E1, E2, E3, E4, E5⟩ := E
  refine pk_eq n 16 (fun g => pk_eq n 16 (fun _ => ⟨rfl, I'⟩) (fun g' => absurd g g') E3) (fun g => ?_) E2
  refine xu_clamp (m := 6) (by decide) (xb_push E2 E4 (by omega) (by omega) rl_b0 ?_)
  refine pk_eq n 16 (fun g' => absurd g' g) (fun _ => ?_) E3
  refine xu_clamp (m := 6) (post := fun z => wY_range_31 (fun r' v' => r' = 0 ∧ i_Rel (k + 3) _ v') v1 z yh yn yo ye yc kd pa pb yt bi ln sl cj ac ov) (by decide) ?_
  refine yb_add E3 (by omega) ⟨rfl, ?_⟩
  rw [E3]
  exact rl_1 (k := 0) P ⟨E1, E2, E3, E4, E5⟩ (by omega) (by decide) (Nat.min_le_right _ _) rfl
theorem i_vc_inner {k : Nat} {u : SX} {v : SY} (I : i_Rel k u v) (hk : k + 3 ≤ 1537) (v1 : Int32) (v2 : Int32) : wpX_inner (fun r u' => wpY_inner (fun r' v' => r' = r ∧ i_Rel (k + 3) u' v') v v1 v2) u v1 v2 := by
  have I' := I
  obtain ⟨xh, xn, xd, xr, xl, ki, op, ar, lo, so, sz, cc, on, vs, ss, ts, re⟩ := u
  obtain ⟨yh, yn, yo, ye, yc, kd, pa, pb, yt, bi, ln, sl, cj, ac, ov⟩ := v
  obtain ⟨n, d, K, st, sc, R, P, E⟩ := I
  have hn := P.1
  have hd := sf_d_le P
  obtain ⟨E1, E2, E3, E4, E5⟩ := E
  refine pk_eq n 16 (fun g => pk_eq n 16 (fun _ => ⟨rfl, I'⟩) (fun g' => absurd g g') E3) (fun g => ?_) E2
  refine xu_clamp (m := 6) (by decide) (xb_push E2 E4 (by omega) (by omega) rl_b1 ?_)
  refine pk_eq n 16 (fun g' => absurd g' g) (fun _ => ?_) E3
  refine xu_clamp (m := 6) (post := fun z => wY_inner_31 (fun r' v' => r' = 0 ∧ i_Rel (k + 3) _ v') v1 z yh yn yo ye yc kd pa pb yt bi ln sl cj ac ov) (by decide) ?_
  refine yb_add E3 (by omega) ⟨rfl, ?_⟩
  rw [E3]
  exact rl_1 (k := 1) P ⟨E1, E2, E3, E4, E5⟩ (by omega) (by decide) (Nat.min_le_right _ _) rfl
theorem i_vc_map {k : Nat} {u : SX} {v : SY} (I : i_Rel k u v) (hk : k + 3 ≤ 1537) (v1 : Int32) (v2 : Int32) : wpX_map (fun r u' => wpY_map (fun r' v' => r' = r ∧ i_Rel (k + 3) u' v') v v1 v2) u v1 v2 := by
  have I' := I
  obtain ⟨xh, xn, xd, xr, xl, ki, op, ar, lo, so, sz, cc, on, vs, ss, ts, re⟩ := u
  obtain ⟨yh, yn, yo, ye, yc, kd, pa, pb, yt, bi, ln, sl, cj, ac, ov⟩ := v
  obtain ⟨n, d, K, st, sc, R, P, E⟩ := I
  have hn := P.1
  have hd := sf_d_le P
  have hy := vc_st E
  have E' := E
  obtain ⟨E1, E2, E3, E4, E5⟩ := E
  unfold wpX_map wpY_map
  refine br_c (fun h => br_t h ⟨rfl, I'⟩) (fun h => br_c (fun h8 => ?_) (fun h8 => br_f h (br_f h8 ⟨rfl, I'⟩)))
  refine xb_ext E2 E4 hn hd (fun g => yb_un P E3 hy h h8 (fun _ => ⟨rfl, I'⟩) (fun g' => absurd g g') (fun e g' => by omega)) (fun g g6 => yb_un P E3 hy h h8 (fun g' => absurd g' g) (fun _ _ => ⟨rfl, I'⟩) (fun e _ g' => by omega)) (fun e g g6 => ?_)
  subst g
  refine yb_un P E3 hy h h8 (fun g' => by omega) (fun _ g' => by omega) (fun e' g' _ => ⟨rfl, ?_⟩)
  have : e' = e := by omega
  subst this
  exact rl_2 (k := 2) P E' g6 (by decide) (by decide) (fun z => ⟨rfl, rfl⟩) (fun z => absurd z (by decide))
theorem i_vc_filter {k : Nat} {u : SX} {v : SY} (I : i_Rel k u v) (hk : k + 3 ≤ 1537) (v1 : Int32) (v2 : Int32) : wpX_filter (fun r u' => wpY_filter (fun r' v' => r' = r ∧ i_Rel (k + 3) u' v') v v1 v2) u v1 v2 := by
  have I' := I
  obtain ⟨xh, xn, xd, xr, xl, ki, op, ar, lo, so, sz, cc, on, vs, ss, ts, re⟩ := u
  obtain ⟨yh, yn, yo, ye, yc, kd, pa, pb, yt, bi, ln, sl, cj, ac, ov⟩ := v
  obtain ⟨n, d, K, st, sc, R, P, E⟩ := I
  have hn := P.1
  have hd := sf_d_le P
  have hy := vc_st E
  have E' := E
  obtain ⟨E1, E2, E3, E4, E5⟩ := E
  unfold wpX_filter wpY_filter
  refine br_c (fun h => br_t h ⟨rfl, I'⟩) (fun h => br_c (fun h8 => ?_) (fun h8 => br_f h (br_f h8 ⟨rfl, I'⟩)))
  refine xb_ext E2 E4 hn hd (fun g => yb_un P E3 hy h h8 (fun _ => ⟨rfl, I'⟩) (fun g' => absurd g g') (fun e g' => by omega)) (fun g g6 => yb_un P E3 hy h h8 (fun g' => absurd g' g) (fun _ _ => ⟨rfl, I'⟩) (fun e _ g' => by omega)) (fun e g g6 => ?_)
  subst g
  refine yb_un P E3 hy h h8 (fun g' => by omega) (fun _ g' => by omega) (fun e' g' _ => ⟨rfl, ?_⟩)
  have : e' = e := by omega
  subst this
  exact rl_2 (k := 3) P E' g6 (by decide) (by decide) (fun z => ⟨rfl, rfl⟩) (fun z => absurd z (by decide))
theorem i_vc_take {k : Nat} {u : SX} {v : SY} (I : i_Rel k u v) (hk : k + 3 ≤ 1537) (v1 : Int32) : wpX_take (fun r u' => wpY_take (fun r' v' => r' = r ∧ i_Rel (k + 3) u' v') v v1) u v1 := by
  have I' := I
  obtain ⟨xh, xn, xd, xr, xl, ki, op, ar, lo, so, sz, cc, on, vs, ss, ts, re⟩ := u
  obtain ⟨yh, yn, yo, ye, yc, kd, pa, pb, yt, bi, ln, sl, cj, ac, ov⟩ := v
  obtain ⟨n, d, K, st, sc, R, P, E⟩ := I
  have hn := P.1
  have hd := sf_d_le P
  have hy := vc_st E
  have E' := E
  obtain ⟨E1, E2, E3, E4, E5⟩ := E
  unfold wpX_take wpY_take
  refine xb_ext E2 E4 hn hd (fun g => yb_un P E3 hy (by decide) (by decide) (fun _ => ⟨rfl, I'⟩) (fun g' => absurd g g') (fun e g' => by omega)) (fun g g6 => yb_un P E3 hy (by decide) (by decide) (fun g' => absurd g' g) (fun _ _ => ⟨rfl, I'⟩) (fun e _ g' => by omega)) (fun e g g6 => ?_)
  subst g
  refine yb_un P E3 hy (by decide) (by decide) (fun g' => by omega) (fun _ g' => by omega) (fun e' g' _ => ⟨rfl, ?_⟩)
  have : e' = e := by omega
  subst this
  exact rl_2 (k := 4) P E' g6 (by decide) (by decide) (fun z => absurd z (by decide)) (fun z => rfl)
theorem i_vc_drop {k : Nat} {u : SX} {v : SY} (I : i_Rel k u v) (hk : k + 3 ≤ 1537) (v1 : Int32) : wpX_drop (fun r u' => wpY_drop (fun r' v' => r' = r ∧ i_Rel (k + 3) u' v') v v1) u v1 := by
  have I' := I
  obtain ⟨xh, xn, xd, xr, xl, ki, op, ar, lo, so, sz, cc, on, vs, ss, ts, re⟩ := u
  obtain ⟨yh, yn, yo, ye, yc, kd, pa, pb, yt, bi, ln, sl, cj, ac, ov⟩ := v
  obtain ⟨n, d, K, st, sc, R, P, E⟩ := I
  have hn := P.1
  have hd := sf_d_le P
  have hy := vc_st E
  have E' := E
  obtain ⟨E1, E2, E3, E4, E5⟩ := E
  unfold wpX_drop wpY_drop
  refine xb_ext E2 E4 hn hd (fun g => yb_un P E3 hy (by decide) (by decide) (fun _ => ⟨rfl, I'⟩) (fun g' => absurd g g') (fun e g' => by omega)) (fun g g6 => yb_un P E3 hy (by decide) (by decide) (fun g' => absurd g' g) (fun _ _ => ⟨rfl, I'⟩) (fun e _ g' => by omega)) (fun e g g6 => ?_)
  subst g
  refine yb_un P E3 hy (by decide) (by decide) (fun g' => by omega) (fun _ g' => by omega) (fun e' g' _ => ⟨rfl, ?_⟩)
  have : e' = e := by omega
  subst this
  exact rl_2 (k := 5) P E' g6 (by decide) (by decide) (fun z => absurd z (by decide)) (fun z => rfl)
theorem i_vc_scan {k : Nat} {u : SX} {v : SY} (I : i_Rel k u v) (hk : k + 3 ≤ 1537) (v1 : Int32) (v2 : Int32) : wpX_scan (fun r u' => wpY_scan (fun r' v' => r' = r ∧ i_Rel (k + 3) u' v') v v1 v2) u v1 v2 := by
  have I' := I
  obtain ⟨xh, xn, xd, xr, xl, ki, op, ar, lo, so, sz, cc, on, vs, ss, ts, re⟩ := u
  obtain ⟨yh, yn, yo, ye, yc, kd, pa, pb, yt, bi, ln, sl, cj, ac, ov⟩ := v
  obtain ⟨n, d, K, st, sc, R, P, E⟩ := I
  have hn := P.1
  have hd := sf_d_le P
  have hy := vc_st E
  have E' := E
  obtain ⟨E1, E2, E3, E4, E5⟩ := E
  unfold wpX_scan wpY_scan
  refine br_c (fun h => br_t h ⟨rfl, I'⟩) (fun h => br_c (fun h8 => ?_) (fun h8 => br_f h (br_f h8 ⟨rfl, I'⟩)))
  refine xb_ext E2 E4 hn hd (fun g => yb_un P E3 hy h h8 (fun _ => ⟨rfl, I'⟩) (fun g' => absurd g g') (fun e g' => by omega)) (fun g g6 => yb_un P E3 hy h h8 (fun g' => absurd g' g) (fun _ _ => ⟨rfl, I'⟩) (fun e _ g' => by omega)) (fun e g g6 => ?_)
  subst g
  refine yb_un P E3 hy h h8 (fun g' => by omega) (fun _ g' => by omega) (fun e' g' _ => ⟨rfl, ?_⟩)
  have : e' = e := by omega
  subst this
  exact rl_2 (k := 6) P E' g6 (by decide) (by decide) (fun z => ⟨rfl, rfl⟩) (fun z => absurd z (by decide))
theorem i_vc_clear {k : Nat} {u : SX} {v : SY} (I : i_Rel k u v) (hk : k + 3 ≤ 1537) : wpX_clear (fun u' => wpY_clear (fun v' => i_Rel (k + 3) u' v') v) u := by
  obtain ⟨xh, xn, xd, xr, xl, ki, op, ar, lo, so, sz, cc, on, vs, ss, ts, re⟩ := u
  obtain ⟨yh, yn, yo, ye, yc, kd, pa, pb, yt, bi, ln, sl, cj, ac, ov⟩ := v
  obtain ⟨n, d, K, st, sc, R, P, E⟩ := I
  obtain ⟨E1, E2, E3, E4, E5, E6, E7, E8, E9, E10, E11, E12⟩ := E
  exact ⟨0, 0, K, st, sc, R, ⟨by omega, fun p hp => absurd hp (Nat.not_lt_zero p), ⟨fun p hp => absurd hp (Nat.not_lt_zero p), fun c hc => absurd hc (Nat.not_lt_zero _)⟩, fun p hp => absurd hp (Nat.not_lt_zero p), P.2.2.2.2.1, P.2.2.2.2.1, fun i hi => absurd hi (Nat.not_lt_zero i)⟩, E1, rfl, rfl, rfl, fun p hp => absurd hp (Nat.not_lt_zero p), fun p hp => absurd hp (Nat.not_lt_zero p), fun p hp => absurd hp (Nat.not_lt_zero p), fun i hi => absurd hi (Nat.not_lt_zero i), E9, E10, rfl, 0, by omega, rfl, rfl, fun i hi => absurd hi (Nat.not_lt_zero i)⟩
theorem i_vc_outCount {k : Nat} {u : SX} {v : SY} (I : i_Rel k u v) (hk : k + 3 ≤ 1537) : wpX_outCount (fun r => wpY_outCount (fun r' => r' = r ∧ i_Rel (k + 3) u v) v) u := by
  have I' := I
  obtain ⟨xh, xn, xd, xr, xl, ki, op, ar, lo, so, sz, cc, on, vs, ss, ts, re⟩ := u
  obtain ⟨yh, yn, yo, ye, yc, kd, pa, pb, yt, bi, ln, sl, cj, ac, ov⟩ := v
  obtain ⟨n, d, K, st, sc, R, P, E⟩ := I
  obtain ⟨E1, E2, E3, E4, E5, E6, E7, E8, E9, E10, E11, m, hm, hx, hy, hr⟩ := E
  exact ⟨hy.trans hx.symm, I'⟩
theorem i_vc_out {k : Nat} {u : SX} {v : SY} (I : i_Rel k u v) (hk : k + 3 ≤ 1537) (v1 : Int32) : wpX_out (fun r => wpY_out (fun r' => r' = r ∧ i_Rel (k + 3) u v) v v1) u v1 := by
  have I' := I
  obtain ⟨xh, xn, xd, xr, xl, ki, op, ar, lo, so, sz, cc, on, vs, ss, ts, re⟩ := u
  obtain ⟨yh, yn, yo, ye, yc, kd, pa, pb, yt, bi, ln, sl, cj, ac, ov⟩ := v
  obtain ⟨n, d, K, st, sc, R, P, E⟩ := I
  obtain ⟨E1, E2, E3, E4, E5, E6, E7, E8, E9, E10, E11, m, hm, hx, hy, hr⟩ := E
  refine br_c (fun h => br_t h ⟨rfl, I'⟩) (fun h => ?_)
  obtain ⟨j, hj, rfl⟩ := nI_of h
  have e1 : (nI j).toNatClampNeg = j := nI_clamp hj
  refine pk_lt j m (fun g => ⟨vp_in_nI (by omega) (by decide), ?_⟩) (fun g => ?_) rfl hx hj (by omega)
  · rw [e1]
    refine br_f h (pk_le m j (fun g' => by omega) (fun g' => br_t (nI_lt (b := 256) (by omega) (by decide)) ⟨vp_in_nI (by omega) (by decide), ?_, I'⟩) hy rfl (by omega) hj)
    rw [e1]
    exact (hr j g).symm
  · exact br_f h (pk_le m j (fun g' => ⟨rfl, I'⟩) (fun g' => by omega) hy rfl (by omega) hj)
theorem i_vc_cellsUsed {k : Nat} {u : SX} {v : SY} (I : i_Rel k u v) (hk : k + 3 ≤ 1537) : wpX_cellsUsed (fun r => wpY_cellsUsed (fun r' => r' = r ∧ i_Rel (k + 3) u v) v) u := by
  have I' := I
  obtain ⟨xh, xn, xd, xr, xl, ki, op, ar, lo, so, sz, cc, on, vs, ss, ts, re⟩ := u
  obtain ⟨yh, yn, yo, ye, yc, kd, pa, pb, yt, bi, ln, sl, cj, ac, ov⟩ := v
  obtain ⟨n, d, K, st, sc, R, P, E⟩ := I
  obtain ⟨E1, E2, E3, E4, E5, E6, E7, E8, E9, E10, E11, E12⟩ := E
  exact ⟨E11.symm, I'⟩
theorem i_vc_stackDepth {k : Nat} {u : SX} {v : SY} (I : i_Rel k u v) (hk : k + 3 ≤ 1537) : wpX_stackDepth (fun r => wpY_stackDepth (fun r' => r' = r ∧ i_Rel (k + 3) u v) v) u := by
  have I' := I
  obtain ⟨xh, xn, xd, xr, xl, ki, op, ar, lo, so, sz, cc, on, vs, ss, ts, re⟩ := u
  obtain ⟨yh, yn, yo, ye, yc, kd, pa, pb, yt, bi, ln, sl, cj, ac, ov⟩ := v
  obtain ⟨n, d, K, st, sc, R, P, E⟩ := I
  have hy := vc_st E
  obtain ⟨E1, E2, E3, E4, E5⟩ := E
  unfold wpX_stackDepth wpY_stackDepth
  exact ys_depth P E3 hy ⟨E4.symm, I'⟩
theorem i_vc_fragment {k : Nat} {u : SX} {v : SY} (I : i_Rel k u v) (hk : k + 3 ≤ 1537) (v1 : Int32) : wpX_fragment (fun r => wpY_fragment (fun r' => r' = r ∧ i_Rel (k + 3) u v) v v1) u v1 := by
  have I' := I
  obtain ⟨xh, xn, xd, xr, xl, ki, op, ar, lo, so, sz, cc, on, vs, ss, ts, re⟩ := u
  obtain ⟨yh, yn, yo, ye, yc, kd, pa, pb, yt, bi, ln, sl, cj, ac, ov⟩ := v
  obtain ⟨n, d, K, st, sc, R, P, E⟩ := I
  have hn := P.1
  have hd := sf_d_le P
  have hy := vc_st E
  have hkd := vc_kd P E
  obtain ⟨E1, E2, E3, E4, E5, E6, E7, E8, E9, E10, E11, E12⟩ := E
  unfold wpX_fragment wpY_fragment
  refine br_c (fun h => ys_depth P E3 hy (br_t h ⟨rfl, I'⟩)) (fun h => ?_)
  obtain ⟨j, hj, rfl⟩ := nI_of h
  refine pk_lt j d (fun g => ?_) (fun g => ys_depth P E3 hy (br_f h (pk_lt j d (fun g' => by omega) (fun g' => ⟨rfl, I'⟩) rfl rfl hj (by omega)))) rfl E4 hj (by omega)
  have e1 : (nI j).toNatClampNeg = j := nI_clamp hj
  have hin : vp_in (nI j) 16 := vp_in_nI (by omega) (by decide)
  obtain ⟨q1, q2, q3⟩ := P.2.2.2.2.2.2 j g
  obtain ⟨s1, s2, s3, s4⟩ := E8 j g
  have hR := sf_R_le P (i := j + 1) (by omega)
  have e2 : (nI (R (j + 1) - 1)).toNatClampNeg = R (j + 1) - 1 := nI_clamp (by omega)
  have eb : R (j + 1) - 1 + 1 = R (j + 1) := by omega
  have ex : nI (R (j + 1) - 1) - nI (R j) + 1 = nI (R (j + 1) - R j) := by
    rw [pk_sub (by omega), nI_1]; exact congrArg nI (by omega)
  have key : ∀ r : Int32, (sf_opn K sc (R j) (R (j + 1)) → r = 16 * nI (R (j + 1) - R j) + 2 * nI (sf_cn K (R j) (R (j + 1))) + 1) → (¬ sf_opn K sc (R j) (R (j + 1)) → r = 16 * nI (R (j + 1) - R j) + 2 * nI (sf_cn K (R j) (R (j + 1))) + 0) →
      wpY_depth (fun r_1 => ((nI j < 0 → (-1 : Int32) = r ∧ i_Rel (k + 3) (xh, xn, xd, xr, xl, ki, op, ar, lo, so, sz, cc, on, vs, ss, ts, re) (yh, yn, yo, ye, yc, kd, pa, pb, yt, bi, ln, sl, cj, ac, ov)) ∧ (¬ nI j < 0 → ((nI j < r_1 → wpY_rootOf (fun r_19 => ((0 ≤ r_19 → (vp_in r_19 16 ∧ (∀ x4_37 : Int32, x4_37 = yt r_19.toNatClampNeg → (wpY_concatsIn (fun r_38 => (wpY_openIn (fun r_54 => ((r_54 = 0 → (((16 * ((r_19 - x4_37) + 1)) + (2 * r_38)) + 0) = r ∧ i_Rel (k + 3) (xh, xn, xd, xr, xl, ki, op, ar, lo, so, sz, cc, on, vs, ss, ts, re) (yh, yn, yo, ye, yc, kd, pa, pb, yt, bi, ln, sl, cj, ac, ov)) ∧ (¬ r_54 = 0 → (((16 * ((r_19 - x4_37) + 1)) + (2 * r_38)) + 1) = r ∧ i_Rel (k + 3) (xh, xn, xd, xr, xl, ki, op, ar, lo, so, sz, cc, on, vs, ss, ts, re) (yh, yn, yo, ye, yc, kd, pa, pb, yt, bi, ln, sl, cj, ac, ov)))) (yh, yn, yo, ye, yc, kd, pa, pb, yt, bi, ln, sl, cj, ac, ov) x4_37 r_19)) (yh, yn, yo, ye, yc, kd, pa, pb, yt, bi, ln, sl, cj, ac, ov) x4_37 r_19)))) ∧ (¬ 0 ≤ r_19 → (-1 : Int32) = r ∧ i_Rel (k + 3) (xh, xn, xd, xr, xl, ki, op, ar, lo, so, sz, cc, on, vs, ss, ts, re) (yh, yn, yo, ye, yc, kd, pa, pb, yt, bi, ln, sl, cj, ac, ov)))) (yh, yn, yo, ye, yc, kd, pa, pb, yt, bi, ln, sl, cj, ac, ov) (nI j)) ∧ (¬ nI j < r_1 → (-1 : Int32) = r ∧ i_Rel (k + 3) (xh, xn, xd, xr, xl, ki, op, ar, lo, so, sz, cc, on, vs, ss, ts, re) (yh, yn, yo, ye, yc, kd, pa, pb, yt, bi, ln, sl, cj, ac, ov)))))) (yh, yn, yo, ye, yc, kd, pa, pb, yt, bi, ln, sl, cj, ac, ov) := by
    intro r h1 h0
    refine ys_depth P E3 hy (br_f h (br_t (nI_lt g (by omega)) (ys_root P E3 hy g (br_t (nI_pos' (by omega)) ⟨vp_in_nI (by omega) (by decide), nm_r (e' := nI (R j)) (by rw [e2, hy _ (by omega), q2]) (ys_cn (by omega) (by omega) (fun p hp => ⟨(hkd p (by omega)).1, (hkd p (by omega)).2.1⟩) (ys_op (by omega) (by omega) (fun p hp => hkd p (by omega)) (fun z => br_f (by decide) ⟨?_, I'⟩) (fun z => br_t rfl ⟨?_, I'⟩)))⟩))))
    · rw [eb] at z
      rw [ex, eb]
      exact (h1 z).symm
    · rw [eb] at z
      rw [ex, eb]
      exact (h0 z).symm
  refine ⟨hin, hin, hin, ?_⟩
  rw [e1, s1, s2]
  refine br_c (fun z => key _ (fun g1 => ?_) (fun _ => rfl)) (fun z => key _ (fun _ => rfl) (fun g1 => (z (s4 g1)).elim))
  rw [s3 g1] at z
  exact absurd z (by decide)

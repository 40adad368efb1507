/-! the owed statements: zip, concatMap -/
theorem i_vc_zip {k : Nat} {u : SX} {v : SY} (I : i_Rel k u v) (hk : k + 3 ≤ 1537) (v1 : Int32) : wpX_zip (fun r u' => wpY_zip (fun r' v' => r' = r ∧ i_Rel (k + 3) u' v') v v1) u v1 := by
  have I' := I
  obtain ⟨xh, xn, xd, xr, xl, ki, op, ar, lo, so, sz, cc, on, vs, ss, ts, re⟩ := u
  obtain ⟨yh, yn, yo, ye, yc, kd, pa, pb, yt, bi, ln, sl, cj, ac, ov⟩ := v
  obtain ⟨n, d, K, st, sc, R, P, E⟩ := I
  have hn := P.1
  have hd := sf_d_le P
  have hy := vc_st E
  have E' := E
  obtain ⟨E1, E2, E3, E4, E5, E6, E7, E8, E9⟩ := E
  unfold wpX_zip wpY_zip
  refine br_c (fun h => br_t h ⟨rfl, I'⟩) (fun h => br_c (fun h6 => ?_) (fun h6 => br_f h (br_f h6 ⟨rfl, I'⟩)))
  refine pk_le 2 d (fun g => ?_) (fun g => br_f h (br_t h6 (ys_depth P E3 hy (pk_le 2 d (fun g' => by omega) (fun g' => ⟨rfl, I'⟩))))) rfl E4
  refine pk_eq n 16 (fun g6 => br_f h (br_t h6 (ys_depth P E3 hy (pk_le 2 d (fun g' => pk_eq n 16 (fun _ => ⟨rfl, I'⟩) (fun g'' => absurd g6 g'') E3) (fun g' => by omega))))) (fun g6 => ?_) E2
  obtain ⟨e, rfl⟩ : ∃ e, d = e + 2 := ⟨d - 2, by omega⟩
  obtain ⟨t1, t2, t3, t4, t5, t6, t7⟩ := sf_sec P
  have i1 : xd - 1 = nI (e + 1) := by rw [E4]; exact nI_pred (e + 1)
  have i2 : xd - 2 = nI e := by rw [E4]; exact sn_sub (a := e + 2) (b := 2) rfl
  have j1 : (nI (e + 1)).toNatClampNeg = e + 1 := nI_clamp (by omega)
  have j2 : (nI e).toNatClampNeg = e := nI_clamp (by omega)
  have s1 := E8 e (by omega)
  have s2 := E8 (e + 1) (by omega)
  have hz : sz (e + 1) = nI (n - R (e + 1)) := by rw [s2.1]; exact congrArg nI (by rw [P.2.2.2.2.2.1])
  have o1 : on e = 0 ∨ on e = 1 := by
    by_cases z : sf_opn K sc (R e) (R (e + 1))
    · exact Or.inr (s1.2.2.1 z)
    · exact Or.inl (s1.2.2.2 z)
  have o2 : on (e + 1) = 0 ∨ on (e + 1) = 1 := by
    by_cases z : sf_opn K sc (R (e + 1)) (R (e + 2))
    · exact Or.inr (s2.2.2.1 z)
    · exact Or.inl (s2.2.2.2 z)
  have key : ∀ o : Int32, vp_nar .boolean o = o → (on e = 1 ∨ on (e + 1) = 1 → o = 1) ∧ (on e = 0 ∧ on (e + 1) = 0 → o = 0) → wX_zip_66 (fun r u' => wpY_zip (fun r' v' => r' = r ∧ i_Rel (k + 3) u' v') (yh, yn, yo, ye, yc, kd, pa, pb, yt, bi, ln, sl, cj, ac, ov) v1) v1 o xh xn xd xr xl ki op ar lo so sz cc on vs ss ts re := by
    intro o ho1 ho2
    unfold wX_zip_66
    refine xb_join (s := R (e + 1)) E2 E4 (by omega) hd (by omega) hz ⟨pk_in e 16 (by omega) (nI_pred e), nm_r (e' := upd on e o) (by rw [nI_pred, j2, ho1]) ?_⟩
    unfold wpY_zip
    have f1 : yn - 1 = nI (n - 1) := by rw [E3]; exact sn_p1 (by omega)
    have f2 : (nI (n - 1)).toNatClampNeg = n - 1 := nI_clamp (by omega)
    have f3 : (nI (R (e + 1) - 1)).toNatClampNeg = R (e + 1) - 1 := nI_clamp (by omega)
    refine br_f h (br_t h6 (ys_depth P E3 hy (pk_le 2 (e + 2) (fun g' => pk_eq n 16 (fun g'' => absurd g'' g6) (fun _ => ⟨pk_in (n - 1) 16 (by omega) f1, nm_r (e' := nI (R (e + 1) - 1)) (by rw [f1, f2, hy (n - 1) (by omega), t3]; exact sn_p1 t1) ⟨vp_in_nI (by omega) (by decide), ?_⟩⟩) E3) (fun g' => by omega))))
    rw [f3, hy (R (e + 1) - 1) (by omega), t4]
    exact yb_add E3 (by omega) ⟨rfl, rl_7 P E' (by omega) ho2⟩
  refine ⟨pk_in e 16 (by omega) i2, ?_⟩
  rw [i2, j2]
  refine br_c (fun z => ⟨pk_in (e + 1) 16 (by omega) i1, ?_⟩) (fun z => ?_)
  · rw [i1, j1]
    refine br_c (fun z' => key 0 rl_b0 ⟨fun g' => ?_, fun _ => rfl⟩) (fun z' => key 1 rl_b1 ⟨fun _ => rfl, fun g' => absurd g'.2 z'⟩)
    rw [z, z'] at g'
    exact absurd g' (by decide)
  · exact key 1 rl_b1 ⟨fun _ => rfl, fun g' => absurd g'.1 z⟩
theorem i_vc_concatMap {k : Nat} {u : SX} {v : SY} (I : i_Rel k u v) (hk : k + 3 ≤ 1537) : wpX_concatMap (fun r u' => wpY_concatMap (fun r' v' => r' = r ∧ i_Rel (k + 3) u' v') v) u := by
  have I' := I
  obtain ⟨xh, xn, xd, xr, xl, ki, op, ar, lo, so, sz, cc, on, vs, ss, ts, re⟩ := u
  obtain ⟨yh, yn, yo, ye, yc, kd, pa, pb, yt, bi, ln, sl, cj, ac, ov⟩ := v
  obtain ⟨n, d, K, st, sc, R, P, E⟩ := I
  have hn := P.1
  have hd := sf_d_le P
  have hy := vc_st E
  have hkd := vc_kd P E
  have E' := E
  obtain ⟨E1, E2, E3, E4, E5, E6, E7, E8, E9⟩ := E
  unfold wpX_concatMap wpY_concatMap
  refine pk_le 2 d (fun g => ?_) (fun g => ys_depth P E3 hy (pk_le 2 d (fun g' => by omega) (fun g' => ⟨rfl, I'⟩))) rfl E4
  refine pk_eq n 16 (fun g6 => ys_depth P E3 hy (pk_le 2 d (fun g' => pk_eq n 16 (fun _ => ⟨rfl, I'⟩) (fun g'' => absurd g6 g'') E3) (fun g' => by omega))) (fun g6 => ?_) E2
  obtain ⟨e, rfl⟩ : ∃ e, d = e + 2 := ⟨d - 2, by omega⟩
  obtain ⟨t1, t2, t3, t4, t5, t6, t7⟩ := sf_sec P
  have i1 : xd - 1 = nI (e + 1) := by rw [E4]; exact nI_pred (e + 1)
  have i2 : xd - 2 = nI e := by rw [E4]; exact sn_sub (a := e + 2) (b := 2) rfl
  have j1 : (nI (e + 1)).toNatClampNeg = e + 1 := nI_clamp (by omega)
  have j2 : (nI e).toNatClampNeg = e := nI_clamp (by omega)
  have s1 := E8 e (by omega)
  have s2 := E8 (e + 1) (by omega)
  have en : R (e + 1 + 1) = n := P.2.2.2.2.2.1
  have hz : sz (e + 1) = nI (n - R (e + 1)) := by rw [s2.1, en]
  have hcn : cc e + cc (e + 1) = nI (sf_cn K (R e) n) := by
    rw [s1.2.1, s2.2.1, en, nI_add, sf_cn_add (K := K) (a := R e) (m := R (e + 1)) (by omega) n (by omega)]
  have hcl := sf_cn_le K (R e) n
  have f1 : yn - 1 = nI (n - 1) := by rw [E3]; exact sn_p1 (by omega)
  have f2 : (nI (n - 1)).toNatClampNeg = n - 1 := nI_clamp (by omega)
  have f3 : nI (R (e + 1)) - 1 = nI (R (e + 1) - 1) := sn_p1 t1
  have f4 : (nI (R (e + 1) - 1)).toNatClampNeg = R (e + 1) - 1 := nI_clamp (by omega)
  have hY : ∀ (r : Int32) (u' : SX), (2 ≤ sf_cn K (R e) n → (4 : Int32) = r ∧ i_Rel (k + 3) u' (yh, yn, yo, ye, yc, kd, pa, pb, yt, bi, ln, sl, cj, ac, ov)) → (sf_cn K (R e) n < 2 → (0 : Int32) = r ∧ i_Rel (k + 3) u' (yh, nI (n + 1), yo, ye, yc, upd kd n (nI 8), upd pa n 0, upd pb n 0, upd yt n (nI (R e)), upd (sf_bb kd bi (R (e + 1)) n (nI n)) n (-1), ln, sl, cj, ac, ov)) → wpY_concatMap (fun r' v' => r' = r ∧ i_Rel (k + 3) u' v') (yh, yn, yo, ye, yc, kd, pa, pb, yt, bi, ln, sl, cj, ac, ov) := by
    intro r u' h4 h0
    unfold wpY_concatMap
    refine ys_depth P E3 hy (pk_le 2 (e + 2) (fun g' => pk_eq n 16 (fun g'' => absurd g'' g6) (fun _ => ⟨pk_in (n - 1) 16 (by omega) f1, nm_r (e' := nI (R (e + 1))) (by rw [f1, f2, hy (n - 1) (by omega), t3]) ⟨pk_in (R (e + 1) - 1) 16 (by omega) f3, nm_r (e' := nI (R e)) (by rw [f3, f4, hy _ (by omega), t4]) ?_⟩⟩) E3) (fun g' => by omega))
    rw [f1]
    refine ys_cn (K := K) (by omega) (by omega) (fun p hp => ⟨(hkd p (by omega)).1, (hkd p (by omega)).2.1⟩) ?_
    rw [show n - 1 + 1 = n from by omega]
    refine pk_lt (sf_cn K (R e) n) 2 (fun g' => ?_) (fun g' => h4 g')
    have hfin : wY_concatMap_111 (fun r' v' => r' = r ∧ i_Rel (k + 3) u' v') (nI (R e)) yh yn yo ye yc kd pa pb yt (sf_bb kd bi (R (e + 1)) n (nI n)) ln sl cj ac ov := by
      unfold wY_concatMap_111
      exact yb_add E3 (by omega) (h0 g')
    have := yb_bind_l E3 hn hfin (n - R (e + 1)) (R (e + 1)) (by omega) (by omega)
    rw [sf_bb_0] at this
    exact ⟨_, this⟩
  refine ⟨pk_in e 16 (by omega) i2, pk_in (e + 1) 16 (by omega) i1, ?_⟩
  rw [i1, i2, j1, j2, hcn]
  refine pk_lt (sf_cn K (R e) n) 2 (fun g' => ?_) (fun g' => hY 4 _ (fun _ => ⟨rfl, I'⟩) (fun g'' => by omega))
  refine xb_bind (d := e + 1) (s := R (e + 1)) E2 E4 hn (by omega) (by omega) hz (xb_join (s := R (e + 1)) E2 E4 (by omega) hd (by omega) hz ⟨pk_in e 16 (by omega) (nI_pred e), pk_in e 16 (by omega) (nI_pred e), nm_r (e' := upd cc e (cc e + cc (e + 1) + 1)) (by rw [nI_pred, j2, pk_us, sn_upd_upd]) (hY 0 _ (fun g'' => by omega) (fun _ => ⟨rfl, rl_8 P E' (by omega) (by omega)⟩))⟩)

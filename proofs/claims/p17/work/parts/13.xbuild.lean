/-! the building calls, walked -/
theorem sf_cn_le (K : Nat → Nat) (a : Nat) : ∀ b, sf_cn K a b ≤ b := by
  intro b
  induction b with
  | zero => exact Nat.le_refl _
  | succ b ih =>
    rw [sf_cn_s]
    split <;> omega
theorem rl_b0 : vp_nar .boolean 0 = 0 := by decide
theorem rl_b1 : vp_nar .boolean 1 = 1 := by decide
section XB
variable {xh xn xd xr xl : Int32} {ki op ar lo so sz cc on vs ss ts re : Nat → Int32} {n d : Nat} {K st sc R : Nat → Nat}
theorem xb_node {post : St2 → Prop} {k a b : Int32} (en : xn = nI n) (hn : n < 16) (h : post (xh, nI (n + 1), xd, xr, xl, upd ki (n + 1) k, upd op (n + 1) a, upd ar (n + 1) b, lo, upd so (n + 1) 0, sz, cc, on, vs, ss, ts, re)) : wpX_addNode post (xh, xn, xd, xr, xl, ki, op, ar, lo, so, sz, cc, on, vs, ss, ts, re) k a b := by
  have e1 : (nI (n + 1)).toNatClampNeg = n + 1 := nI_clamp (by omega)
  have hin : vp_in (nI (n + 1)) 17 := vp_in_nI (by omega) (by decide)
  exact nm_r (e' := nI (n + 1)) (by rw [en, nI_1]) ⟨hin, nm_r (e' := upd ki (n + 1) k) (by rw [e1]) ⟨hin, nm_r (e' := upd op (n + 1) a) (by rw [e1]) ⟨hin, nm_r (e' := upd ar (n + 1) b) (by rw [e1]) ⟨hin, nm_r (e' := upd so (n + 1) 0) (by rw [e1]) h⟩⟩⟩⟩
theorem xb_push {post : St2 → Prop} {k a b o : Int32} (en : xn = nI n) (ed : xd = nI d) (hn : n < 16) (hd : d < 16) (ho : vp_nar .boolean o = o) (h : post (xh, nI (n + 1), nI (d + 1), xr, xl, upd ki (n + 1) k, upd op (n + 1) a, upd ar (n + 1) b, lo, upd so (n + 1) 0, upd sz d 1, upd cc d 0, upd on d o, vs, ss, ts, re)) : wpX_pushSource post (xh, xn, xd, xr, xl, ki, op, ar, lo, so, sz, cc, on, vs, ss, ts, re) k a b o := by
  have e1 : (nI d).toNatClampNeg = d := nI_clamp (by omega)
  have hin : vp_in (nI d) 16 := vp_in_nI hd (by decide)
  subst ed
  unfold wpX_pushSource
  exact xb_node en hn ⟨hin, nm_r (e' := upd sz d 1) (by rw [e1]) ⟨hin, nm_r (e' := upd cc d 0) (by rw [e1]) ⟨hin, nm_r (e' := upd on d o) (by rw [e1, ho]) (nm_r (nI_1 d) h)⟩⟩⟩
theorem xb_ext {post : Int32 → St2 → Prop} {k a b : Int32} (en : xn = nI n) (ed : xd = nI d) (hn : n ≤ 16) (hd : d ≤ n) (h0 : d = 0 → post 2 (xh, xn, xd, xr, xl, ki, op, ar, lo, so, sz, cc, on, vs, ss, ts, re)) (h1 : d ≠ 0 → n = 16 → post 3 (xh, xn, xd, xr, xl, ki, op, ar, lo, so, sz, cc, on, vs, ss, ts, re))
    (h2 : ∀ e, d = e + 1 → n < 16 → post 0 (xh, nI (n + 1), xd, xr, xl, upd ki (n + 1) k, upd op (n + 1) a, upd ar (n + 1) b, lo, upd so (n + 1) 0, upd sz e (sz e + 1), cc, on, vs, ss, ts, re)) : wpX_extendTop post (xh, xn, xd, xr, xl, ki, op, ar, lo, so, sz, cc, on, vs, ss, ts, re) k a b := by
  refine pk_eq d 0 (fun g => h0 g) (fun g => pk_eq n 16 (fun g' => h1 g g') (fun g' => ?_) en) ed
  obtain ⟨e, rfl⟩ : ∃ e, d = e + 1 := ⟨d - 1, by omega⟩
  subst ed
  have e1 : nI (e + 1) - 1 = nI e := nI_pred e
  have e2 : (nI e).toNatClampNeg = e := nI_clamp (by omega)
  have hin : vp_in (nI (e + 1) - 1) 16 := pk_in e 16 (by omega) e1
  exact xb_node en (by omega) ⟨hin, hin, nm_r (e' := upd sz e (sz e + 1)) (by rw [e1, e2]) (h2 e rfl (by omega))⟩
theorem xb_join {post : St2 → Prop} {k a : Int32} {s : Nat} (en : xn = nI n) (ed : xd = nI (d + 2)) (hn : n < 16) (hd : d + 2 ≤ n) (hs : s ≤ n) (hz : sz (d + 1) = nI (n - s))
    (h : post (xh, nI (n + 1), nI (d + 1), xr, xl, upd ki (n + 1) k, upd op (n + 1) a, upd ar (n + 1) 0, upd lo (n + 1) (nI s), upd so (n + 1) 0, upd sz d (sz d + (sz (d + 1) + 1)), upd cc d (cc d + cc (d + 1)), on, vs, ss, ts, re)) : wpX_joinTopTwo post (xh, xn, xd, xr, xl, ki, op, ar, lo, so, sz, cc, on, vs, ss, ts, re) k a := by
  subst ed
  have e1 : (nI (n + 1)).toNatClampNeg = n + 1 := nI_clamp (by omega)
  have e2 : nI (d + 2) - 1 = nI (d + 1) := nI_pred (d + 1)
  have e3 : (nI (d + 1)).toNatClampNeg = d + 1 := nI_clamp (by omega)
  have e4 : nI (d + 1) - 1 = nI d := nI_pred d
  have e5 : (nI d).toNatClampNeg = d := nI_clamp (by omega)
  have i1 : vp_in (nI (d + 1)) 16 := vp_in_nI (by omega) (by decide)
  have i2 : vp_in (nI (d + 1) - 1) 16 := pk_in d 16 (by omega) e4
  refine nm_r e2 ⟨i1, nm_r (e' := nI s) (by rw [e3, hz, en]; exact sn_sub (by omega)) (xb_node en hn ⟨vp_in_nI (by omega) (by decide), nm_r (e' := upd lo (n + 1) (nI s)) (by rw [e1]) ⟨i2, i1, i2, nm_r (e' := upd sz d (sz d + (sz (d + 1) + 1))) (by rw [e4, e5, e3]) ⟨i2, i1, i2, nm_r (e' := upd cc d (cc d + cc (d + 1))) (by rw [e4, e5, e3]) (nm_r e2 h)⟩⟩⟩)⟩
theorem xb_bind_l {post : St2 → Prop} {s : Nat} (en : xn = nI n) (hn : n ≤ 16) (h : post (xh, xn, xd, xr, xl, ki, op, ar, lo, sf_sb so (s + 1) (n + 1) (nI s), sz, cc, on, vs, ss, ts, re)) :
    ∀ k i, i + k = n + 1 → s + 1 ≤ i → wX_bindTop_21 post (nI s) xh xn xd xr xl (k + 1) (nI i) ki op ar lo (sf_sb so (s + 1) i (nI s)) sz cc on vs ss ts re := by
  intro k
  induction k with
  | zero =>
    intro i hi hs
    have : i = n + 1 := by omega
    subst this
    exact br_t (by rw [en]; exact nI_lt (by omega) (by omega)) h
  | succ k ih =>
    intro i hi hs
    have e1 : (nI i).toNatClampNeg = i := nI_clamp (by omega)
    have hin : vp_in (nI i) 17 := vp_in_nI (by omega) (by decide)
    refine br_f (by rw [en]; exact nI_nlt (by omega) (by omega)) ⟨hin, ?_⟩
    rw [e1, sf_sb_m]
    refine br_c (fun z => ⟨hin, nm_r (sf_sb_t hs z) (nm_r (nI_1 i) (ih (i + 1) (by omega) (by omega)))⟩) (fun z => nm_r (nI_1 i) ?_)
    rw [sf_sb_f z]
    exact ih (i + 1) (by omega) (by omega)
theorem xb_bind {post : St2 → Prop} {s : Nat} (en : xn = nI n) (ed : xd = nI (d + 1)) (hn : n ≤ 16) (hd : d + 1 ≤ n) (hs : s ≤ n) (hz : sz d = nI (n - s)) (h : post (xh, xn, xd, xr, xl, ki, op, ar, lo, sf_sb so (s + 1) (n + 1) (nI s), sz, cc, on, vs, ss, ts, re)) : wpX_bindTop post (xh, xn, xd, xr, xl, ki, op, ar, lo, so, sz, cc, on, vs, ss, ts, re) := by
  have e1 : xd - 1 = nI d := by rw [ed, nI_pred]
  have e2 : (nI d).toNatClampNeg = d := nI_clamp (by omega)
  have := xb_bind_l en hn h (n - s) (s + 1) (by omega) (by omega)
  rw [sf_sb_0] at this
  exact And.intro (pk_in d 16 (by omega) e1) (nm_r (e' := nI s) (by rw [e1, e2, hz, en]; exact sn_sub (by omega)) (nm_r (nI_1 s) ⟨_, this⟩))
end XB

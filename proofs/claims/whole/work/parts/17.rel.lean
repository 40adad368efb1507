/-! the relation, and how the building calls keep it -/
def rl_Re (n d : Nat) (K st sc R : Nat → Nat) (u : SX) (v : SY) : Prop := match u, v with
  | (xh, xn, xd, xr, xl, ki, op, ar, lo, so, sz, cc, on, vs, ss, ts, re), (yh, yn, yo, ye, yc, kd, pa, pb, yt, bi, ln, sl, cj, ac, ov) => xh = yh ∧ xn = nI n ∧ yn = nI n ∧ xd = nI d ∧ (∀ p, p < n → sf_XN ki op ar lo so pa pb K st sc p) ∧ (∀ p, p < n → sf_YN n kd yt bi K st sc p) ∧ sf_src n K pb ∧ sf_SK sz cc on d K sc R ∧
    vs 0 = 0 ∧ ts 0 = 1 ∧ xl = ye ∧ ∃ m, m ≤ 216 ∧ xr = nI m ∧ yo = nI m ∧ ∀ i, i < m → re i = ov i
/-- both sides keep the same forest of nodes, the same stack, the same result -/
def i_Rel (_ : Nat) (u : SX) (v : SY) : Prop := ∃ n d K st sc R, sf_PF n d K st sc R ∧ rl_Re n d K st sc R u v
theorem i_up {k : Nat} {u : SX} {v : SY} (h : i_Rel k u v) : i_Rel (k + 3) u v := h
theorem sf_cn_le (K : Nat → Nat) (a : Nat) : ∀ b, sf_cn K a b ≤ b := by
  intro b
  induction b with
  | zero => exact Nat.le_refl _
  | succ b ih =>
    rw [sf_cn_s]
    split <;> omega
theorem rl_b0 : vp_nar .boolean 0 = 0 := by decide
theorem rl_b1 : vp_nar .boolean 1 = 1 := by decide
section RL
variable {xh xn xd xr xl : Int32} {ki op ar lo so sz cc on vs ss ts re : Nat → Int32}
variable {yh yn yo ye yc : Int32} {kd pa pb yt bi ln sl cj ac ov : Nat → Int32} {n d : Nat} {K st sc R : Nat → Nat}
theorem rl_src_add {k b : Nat} (h : sf_src n K pb) (hb : k ≤ 1 → b ≤ 6) {v : Int32} (ev : k ≤ 1 → v = nI b) : sf_src (n + 1) (sf_u K n k) (upd pb n v) := by
  intro p hp hk
  by_cases e : p = n
  · subst e
    rw [sf_us] at hk
    exact ⟨b, hb hk, by rw [pk_us, ev hk]⟩
  · rw [sf_un' e] at hk
    rw [pk_un e]
    exact h p (by omega) hk
theorem rl_1 {j k b : Nat} {a o : Int32} (P : sf_PF n d K st sc R) (E : rl_Re n d K st sc R (xh, xn, xd, xr, xl, ki, op, ar, lo, so, sz, cc, on, vs, ss, ts, re) (yh, yn, yo, ye, yc, kd, pa, pb, yt, bi, ln, sl, cj, ac, ov)) (hn : n < 16) (hk : k ≤ 1) (hb : b ≤ 6) (ho : o = if k = 1 then 1 else 0) :
    i_Rel j (xh, nI (n + 1), nI (d + 1), xr, xl, upd ki (n + 1) (nI k), upd op (n + 1) (nI b), upd ar (n + 1) a, lo, upd so (n + 1) 0, upd sz d 1, upd cc d 0, upd on d o, vs, ss, ts, re) (yh, nI (n + 1), yo, ye, yc, upd kd n (nI k), upd pa n a, upd pb n (nI b), upd yt n (nI n), upd bi n (-1), ln, sl, cj, ac, ov) := by
  obtain ⟨E1, E2, E3, E4, E5, E6, E7, E8, E9, E10, E11, E12⟩ := E
  refine ⟨n + 1, d + 1, sf_u K n k, sf_u st n n, sf_u sc n 0, sf_u R (d + 1) (n + 1), sf_PF1 P hn hk, E1, rfl, rfl, rfl, fun p hp => ?_, fun p hp => ?_, rl_src_add (b := b) E7 (fun _ => hb) (fun _ => rfl), sf_SK1 P hk ho E8, E9, E10, E11, E12⟩
  · by_cases e : p = n
    · subst e
      exact sf_XN_new (fun _ => ⟨rfl, rfl⟩) (fun g => by omega) (fun g => by omega) (fun g => by omega) (fun g => by omega)
    · exact sf_XN_old (by omega) (E5 p (by omega)) (E5 p (by omega)).2.1
  · by_cases e : p = n
    · subst e
      exact sf_YN_new
    · exact sf_YN_old (by omega) (E6 p (by omega)) (sf_YN_keep (by omega) (E6 p (by omega)))
theorem rl_2 {j k : Nat} {v2 v3 v6 v7 : Int32} (P : sf_PF n (d + 1) K st sc R) (E : rl_Re n (d + 1) K st sc R (xh, xn, xd, xr, xl, ki, op, ar, lo, so, sz, cc, on, vs, ss, ts, re) (yh, yn, yo, ye, yc, kd, pa, pb, yt, bi, ln, sl, cj, ac, ov)) (hn : n < 16) (hk : 2 ≤ k) (hk' : k ≤ 6) (h2 : k = 2 ∨ k = 3 ∨ k = 6 → v2 = v6 ∧ v3 = v7) (h3 : k = 4 ∨ k = 5 → v3 = v6) :
    i_Rel j (xh, nI (n + 1), xd, xr, xl, upd ki (n + 1) (nI k), upd op (n + 1) v2, upd ar (n + 1) v3, lo, upd so (n + 1) 0, upd sz d (sz d + 1), cc, on, vs, ss, ts, re) (yh, nI (n + 1), yo, ye, yc, upd kd n (nI k), upd pa n v6, upd pb n v7, upd yt n (nI (R d)), upd bi n (-1), ln, sl, cj, ac, ov) := by
  obtain ⟨E1, E2, E3, E4, E5, E6, E7, E8, E9, E10, E11, E12⟩ := E
  refine ⟨n + 1, d + 1, sf_u K n k, sf_u st n (R d), sf_u sc n 0, sf_u R (d + 1) (n + 1), sf_PF2 P hn hk hk', E1, rfl, rfl, E4, fun p hp => ?_, fun p hp => ?_, rl_src_add (b := 0) E7 (fun g => by omega) (fun g => by omega), sf_SK2 P hk hk' E8, E9, E10, E11, E12⟩
  · by_cases e : p = n
    · subst e
      exact sf_XN_new (fun g => by omega) h2 h3 (fun g => by omega) (fun g => by omega)
    · exact sf_XN_old (by omega) (E5 p (by omega)) (E5 p (by omega)).2.1
  · by_cases e : p = n
    · subst e
      exact sf_YN_new
    · exact sf_YN_old (by omega) (E6 p (by omega)) (sf_YN_keep (by omega) (E6 p (by omega)))
theorem rl_7 {j : Nat} {v o : Int32} (P : sf_PF n (d + 2) K st sc R) (E : rl_Re n (d + 2) K st sc R (xh, xn, xd, xr, xl, ki, op, ar, lo, so, sz, cc, on, vs, ss, ts, re) (yh, yn, yo, ye, yc, kd, pa, pb, yt, bi, ln, sl, cj, ac, ov)) (hn : n < 16) (ho : (on d = 1 ∨ on (d + 1) = 1 → o = 1) ∧ (on d = 0 ∧ on (d + 1) = 0 → o = 0)) :
    i_Rel j (xh, nI (n + 1), nI (d + 1), xr, xl, upd ki (n + 1) (nI 7), upd op (n + 1) v, upd ar (n + 1) 0, upd lo (n + 1) (nI (R (d + 1))), upd so (n + 1) 0, upd sz d (sz d + (sz (d + 1) + 1)), upd cc d (cc d + cc (d + 1)), upd on d o, vs, ss, ts, re) (yh, nI (n + 1), yo, ye, yc, upd kd n (nI 7), upd pa n v, upd pb n 0, upd yt n (nI (R d)), upd bi n (-1), ln, sl, cj, ac, ov) := by
  obtain ⟨E1, E2, E3, E4, E5, E6, E7, E8, E9, E10, E11, E12⟩ := E
  obtain ⟨t1, t2, t3, t4, t5, t6, t7⟩ := sf_sec P
  refine ⟨n + 1, d + 1, sf_u K n 7, sf_u st n (R d), sf_u sc n 0, sf_u R (d + 1) (n + 1), sf_PF7 P hn, E1, rfl, rfl, rfl, fun p hp => ?_, fun p hp => ?_, rl_src_add (b := 0) E7 (fun g => by omega) (fun g => by omega), sf_SK7 P E8 ho, E9, E10, E11, E12⟩
  · by_cases e : p = n
    · subst e
      exact sf_XN_new (fun g => by omega) (fun g => by omega) (fun g => by omega) (fun _ => rfl) (fun _ => ⟨by omega, by rw [pk_us, t3]⟩)
    · exact sf_XN_old (by omega) (sf_XN_lo (by omega) (E5 p (by omega))) (E5 p (by omega)).2.1
  · by_cases e : p = n
    · subst e
      exact sf_YN_new
    · exact sf_YN_old (by omega) (E6 p (by omega)) (sf_YN_keep (by omega) (E6 p (by omega)))
theorem rl_8 {j : Nat} (P : sf_PF n (d + 2) K st sc R) (E : rl_Re n (d + 2) K st sc R (xh, xn, xd, xr, xl, ki, op, ar, lo, so, sz, cc, on, vs, ss, ts, re) (yh, yn, yo, ye, yc, kd, pa, pb, yt, bi, ln, sl, cj, ac, ov)) (hn : n < 16) (hl : sf_cn K (R d) n ≤ 1) :
    i_Rel j (xh, nI (n + 1), nI (d + 1), xr, xl, upd ki (n + 1) (nI 8), upd op (n + 1) 0, upd ar (n + 1) 0, upd lo (n + 1) (nI (R (d + 1))), upd (sf_sb so (R (d + 1) + 1) (n + 1) (nI (R (d + 1)))) (n + 1) 0, upd sz d (sz d + (sz (d + 1) + 1)), upd cc d (cc d + cc (d + 1) + 1), on, vs, ss, ts, re) (yh, nI (n + 1), yo, ye, yc, upd kd n (nI 8), upd pa n 0, upd pb n 0, upd yt n (nI (R d)), upd (sf_bb kd bi (R (d + 1)) n (nI n)) n (-1), ln, sl, cj, ac, ov) := by
  obtain ⟨E1, E2, E3, E4, E5, E6, E7, E8, E9, E10, E11, E12⟩ := E
  obtain ⟨t1, t2, t3, t4, t5, t6, t7⟩ := sf_sec P
  have hs := P.2.2.1
  refine ⟨n + 1, d + 1, sf_u K n 8, sf_u st n (R d), sf_u (sf_bind sc (R (d + 1)) n) n 0, sf_u R (d + 1) (n + 1), sf_PF8 P hn hl, E1, rfl, rfl, rfl, fun p hp => ?_, fun p hp => ?_, rl_src_add (b := 0) E7 (fun g => by omega) (fun g => by omega), sf_SK8 P E8, E9, E10, E11, E12⟩
  · by_cases e : p = n
    · subst e
      exact sf_XN_new (fun g => by omega) (fun g => by omega) (fun g => by omega) (fun _ => rfl) (fun _ => ⟨by omega, by rw [pk_us, t3]⟩)
    · have h1 := hs.1 p (by omega)
      have h2 := sf_st_le P.2.1 p (by omega)
      exact sf_XN_old (by omega) (sf_XN_lo (by omega) (E5 p (by omega))) (sf_bindX (by omega) (by omega) (by omega) (E5 p (by omega)).2.1)
  · by_cases e : p = n
    · subst e
      exact sf_YN_new
    · have := ye_k8 P.2.1 (p := p) (by omega)
      exact sf_YN_old (by omega) (E6 p (by omega)) (sf_bindY P.2.1 P.1 (by omega) t1 t3 (by omega) (E6 p (by omega)))
end RL
/-! the building calls' walks -/
section XB
variable {xh xn xd xr xl : Int32} {ki op ar lo so sz cc on vs ss ts re : Nat → Int32} {n d : Nat} {K st sc R : Nat → Nat}
theorem xb_node {post : SX → Prop} {k a b : Int32} (en : xn = nI n) (hn : n < 16) (h : post (xh, nI (n + 1), xd, xr, xl, upd ki (n + 1) k, upd op (n + 1) a, upd ar (n + 1) b, lo, upd so (n + 1) 0, sz, cc, on, vs, ss, ts, re)) : wpX_addNode post (xh, xn, xd, xr, xl, ki, op, ar, lo, so, sz, cc, on, vs, ss, ts, re) k a b := by
  have e1 : (nI (n + 1)).toNatClampNeg = n + 1 := nI_clamp (by omega)
  have hin : vp_in (nI (n + 1)) 17 := vp_in_nI (by omega) (by decide)
  exact nm_r (e' := nI (n + 1)) (by rw [en, nI_1]) ⟨hin, nm_r (e' := upd ki (n + 1) k) (by rw [e1]) ⟨hin, nm_r (e' := upd op (n + 1) a) (by rw [e1]) ⟨hin, nm_r (e' := upd ar (n + 1) b) (by rw [e1]) ⟨hin, nm_r (e' := upd so (n + 1) 0) (by rw [e1]) h⟩⟩⟩⟩
theorem xb_push {post : SX → Prop} {k a b o : Int32} (en : xn = nI n) (ed : xd = nI d) (hn : n < 16) (hd : d < 16) (ho : vp_nar .boolean o = o) (h : post (xh, nI (n + 1), nI (d + 1), xr, xl, upd ki (n + 1) k, upd op (n + 1) a, upd ar (n + 1) b, lo, upd so (n + 1) 0, upd sz d 1, upd cc d 0, upd on d o, vs, ss, ts, re)) : wpX_pushSource post (xh, xn, xd, xr, xl, ki, op, ar, lo, so, sz, cc, on, vs, ss, ts, re) k a b o := by
  have e1 : (nI d).toNatClampNeg = d := nI_clamp (by omega)
  have hin : vp_in (nI d) 16 := vp_in_nI hd (by decide)
  subst ed
  unfold wpX_pushSource
  exact xb_node en hn ⟨hin, nm_r (e' := upd sz d 1) (by rw [e1]) ⟨hin, nm_r (e' := upd cc d 0) (by rw [e1]) ⟨hin, nm_r (e' := upd on d o) (by rw [e1, ho]) (nm_r (nI_1 d) h)⟩⟩⟩
theorem xb_ext {post : Int32 → SX → Prop} {k a b : Int32} (en : xn = nI n) (ed : xd = nI d) (hn : n ≤ 16) (hd : d ≤ n) (h0 : d = 0 → post 2 (xh, xn, xd, xr, xl, ki, op, ar, lo, so, sz, cc, on, vs, ss, ts, re)) (h1 : d ≠ 0 → n = 16 → post 3 (xh, xn, xd, xr, xl, ki, op, ar, lo, so, sz, cc, on, vs, ss, ts, re))
    (h2 : ∀ e, d = e + 1 → n < 16 → post 0 (xh, nI (n + 1), xd, xr, xl, upd ki (n + 1) k, upd op (n + 1) a, upd ar (n + 1) b, lo, upd so (n + 1) 0, upd sz e (sz e + 1), cc, on, vs, ss, ts, re)) : wpX_extendTop post (xh, xn, xd, xr, xl, ki, op, ar, lo, so, sz, cc, on, vs, ss, ts, re) k a b := by
  refine pk_eq d 0 (fun g => h0 g) (fun g => pk_eq n 16 (fun g' => h1 g g') (fun g' => ?_) en) ed
  obtain ⟨e, rfl⟩ : ∃ e, d = e + 1 := ⟨d - 1, by omega⟩
  subst ed
  have e1 : nI (e + 1) - 1 = nI e := nI_pred e
  have e2 : (nI e).toNatClampNeg = e := nI_clamp (by omega)
  have hin : vp_in (nI (e + 1) - 1) 16 := pk_in e 16 (by omega) e1
  exact xb_node en (by omega) ⟨hin, hin, nm_r (e' := upd sz e (sz e + 1)) (by rw [e1, e2]) (h2 e rfl (by omega))⟩
theorem xb_join {post : SX → Prop} {k a : Int32} {s : Nat} (en : xn = nI n) (ed : xd = nI (d + 2)) (hn : n < 16) (hd : d + 2 ≤ n) (hs : s ≤ n) (hz : sz (d + 1) = nI (n - s))
    (h : post (xh, nI (n + 1), nI (d + 1), xr, xl, upd ki (n + 1) k, upd op (n + 1) a, upd ar (n + 1) 0, upd lo (n + 1) (nI s), upd so (n + 1) 0, upd sz d (sz d + (sz (d + 1) + 1)), upd cc d (cc d + cc (d + 1)), on, vs, ss, ts, re)) : wpX_joinTopTwo post (xh, xn, xd, xr, xl, ki, op, ar, lo, so, sz, cc, on, vs, ss, ts, re) k a := by
  subst ed
  have e1 : (nI (n + 1)).toNatClampNeg = n + 1 := nI_clamp (by omega)
  have e2 : nI (d + 2) - 1 = nI (d + 1) := nI_pred (d + 1)
  have e3 : (nI (d + 1)).toNatClampNeg = d + 1 := nI_clamp (by omega)
  have e4 : nI (d + 1) - 1 = nI d := nI_pred d
  have e5 : (nI d).toNatClampNeg = d := nI_clamp (by omega)
  have i1 : vp_in (nI (d + 1)) 16 := vp_in_nI (by omega) (by decide)
  have i2 : vp_in (nI (d + 1) - 1) 16 := pk_in d 16 (by omega) e4
  refine nm_r e2 ⟨i1, nm_r (e' := nI s) (by rw [e3, hz, en]; exact sn_sub (by omega)) (xb_node en hn ⟨vp_in_nI (by omega) (by decide), nm_r (e' := upd lo (n + 1) (nI s)) (by rw [e1]) ⟨i2, i1, i2, nm_r (e' := upd sz d (sz d + (sz (d + 1) + 1))) (by rw [e4, e5, e3]) ⟨i2, i1, i2, nm_r (e' := upd cc d (cc d + cc (d + 1))) (by rw [e4, e5, e3]) (nm_r e2 h)⟩⟩⟩)⟩
theorem xb_bind_l {post : SX → Prop} {s : Nat} (en : xn = nI n) (hn : n ≤ 16) (h : post (xh, xn, xd, xr, xl, ki, op, ar, lo, sf_sb so (s + 1) (n + 1) (nI s), sz, cc, on, vs, ss, ts, re)) :
    ∀ k i, i + k = n + 1 → s + 1 ≤ i → wX_bindTop_21 post (nI s) xh xn xd xr xl (k + 1) (nI i) ki op ar lo (sf_sb so (s + 1) i (nI s)) sz cc on vs ss ts re := by
  intro k
  induction k with
  | zero =>
    intro i hi hs
    have : i = n + 1 := by omega
    subst this
    exact br_t (by rw [en]; exact nI_lt (by omega) (by omega)) h
  | succ k ih =>
    intro i hi hs
    have e1 : (nI i).toNatClampNeg = i := nI_clamp (by omega)
    have hin : vp_in (nI i) 17 := vp_in_nI (by omega) (by decide)
    refine br_f (by rw [en]; exact nI_nlt (by omega) (by omega)) ⟨hin, ?_⟩
    rw [e1, sf_sb_m]
    refine br_c (fun z => ⟨hin, nm_r (sf_sb_t hs z) (nm_r (nI_1 i) (ih (i + 1) (by omega) (by omega)))⟩) (fun z => nm_r (nI_1 i) ?_)
    rw [sf_sb_f z]
    exact ih (i + 1) (by omega) (by omega)
theorem xb_bind {post : SX → Prop} {s : Nat} (en : xn = nI n) (ed : xd = nI (d + 1)) (hn : n ≤ 16) (hd : d + 1 ≤ n) (hs : s ≤ n) (hz : sz d = nI (n - s)) (h : post (xh, xn, xd, xr, xl, ki, op, ar, lo, sf_sb so (s + 1) (n + 1) (nI s), sz, cc, on, vs, ss, ts, re)) : wpX_bindTop post (xh, xn, xd, xr, xl, ki, op, ar, lo, so, sz, cc, on, vs, ss, ts, re) := by
  have e1 : xd - 1 = nI d := by rw [ed, nI_pred]
  have e2 : (nI d).toNatClampNeg = d := nI_clamp (by omega)
  have := xb_bind_l en hn h (n - s) (s + 1) (by omega) (by omega)
  rw [sf_sb_0] at this
  exact And.intro (pk_in d 16 (by omega) e1) (nm_r (e' := nI s) (by rw [e1, e2, hz, en]; exact sn_sub (by omega)) (nm_r (nI_1 s) ⟨_, this⟩))
end XB
section YB
variable {yh yn yo ye yc : Int32} {kd pa pb yt bi ln sl cj ac ov : Nat → Int32} {n d : Nat} {K st sc R : Nat → Nat}
theorem yb_add {post : Int32 → SY → Prop} {k a b s : Int32} (en : yn = nI n) (hn : n < 16) (h : post 0 (yh, nI (n + 1), yo, ye, yc, upd kd n k, upd pa n a, upd pb n b, upd yt n s, upd bi n (-1), ln, sl, cj, ac, ov)) : wpY_add post (yh, yn, yo, ye, yc, kd, pa, pb, yt, bi, ln, sl, cj, ac, ov) k a b s := by
  subst en
  have e1 : (nI n).toNatClampNeg = n := nI_clamp (by omega)
  have hin : vp_in (nI n) 16 := vp_in_nI (by omega) (by decide)
  exact And.intro hin (nm_r (e' := upd kd n k) (by rw [e1]) ⟨hin, nm_r (e' := upd pa n a) (by rw [e1]) ⟨hin, nm_r (e' := upd pb n b) (by rw [e1]) ⟨hin, nm_r (e' := upd yt n s) (by rw [e1]) ⟨hin, nm_r (e' := upd bi n (-1)) (by rw [e1]) (nm_r (nI_1 n) h)⟩⟩⟩⟩)
theorem yb_un {post : Int32 → SY → Prop} {k q mx a b : Int32} (P : sf_PF n d K st sc R) (en : yn = nI n) (hy : ∀ p, p < n → yt p = nI (st p)) (hq : ¬ q < 0) (hq' : q ≤ mx) (h0 : d = 0 → post 2 (yh, yn, yo, ye, yc, kd, pa, pb, yt, bi, ln, sl, cj, ac, ov)) (h1 : d ≠ 0 → n = 16 → post 3 (yh, yn, yo, ye, yc, kd, pa, pb, yt, bi, ln, sl, cj, ac, ov))
    (h2 : ∀ e, d = e + 1 → n < 16 → post 0 (yh, nI (n + 1), yo, ye, yc, upd kd n k, upd pa n a, upd pb n b, upd yt n (nI (R e)), upd bi n (-1), ln, sl, cj, ac, ov)) : wpY_unaryNode post (yh, yn, yo, ye, yc, kd, pa, pb, yt, bi, ln, sl, cj, ac, ov) k q mx a b := by
  have hn := P.1
  have hd := sf_d_le P
  refine br_f hq (br_t hq' (ys_depth P en hy (pk_eq d 0 (fun g => h0 g) (fun g => pk_eq n 16 (fun g' => h1 g g') (fun g' => ?_) en))))
  obtain ⟨e, rfl⟩ : ∃ e, d = e + 1 := ⟨d - 1, by omega⟩
  obtain ⟨t1, t2, t3, t4⟩ := sf_top P
  have e1 : yn - 1 = nI (n - 1) := by rw [en]; exact sn_p1 t1
  have e2 : (nI (n - 1)).toNatClampNeg = n - 1 := nI_clamp (by omega)
  refine ⟨pk_in (n - 1) 16 (by omega) e1, ?_⟩
  rw [e1, e2, hy (n - 1) (by omega), t2]
  exact yb_add en (by omega) (h2 e rfl (by omega))
theorem yb_bind_l {post : Int32 → SY → Prop} {s : Nat} {x2 : Int32} (en : yn = nI n) (hn : n ≤ 16) (h : wY_concatMap_111 post x2 yh yn yo ye yc kd pa pb yt (sf_bb kd bi s n (nI n)) ln sl cj ac ov) :
    ∀ k i, i + k = n → s ≤ i → wY_concatMap_61 post x2 yh yn yo ye yc (k + 1) (nI i) kd pa pb yt (sf_bb kd bi s i (nI n)) ln sl cj ac ov := by
  intro k
  induction k with
  | zero =>
    intro i hi hs
    have : i = n := by omega
    subst this
    exact br_t (by rw [en]; exact nI_le (by omega) (by omega)) h
  | succ k ih =>
    intro i hi hs
    have e1 : (nI i).toNatClampNeg = i := nI_clamp (by omega)
    have hin : vp_in (nI i) 16 := vp_in_nI (by omega) (by decide)
    refine br_f (by rw [en]; exact nI_ge (by omega) (by omega)) (br_f (nI_ge (b := 16) (by omega) (by decide)) ⟨hin, ?_⟩)
    rw [e1, sf_bb_m]
    refine br_c (fun z => ⟨hin, br_c (fun z' => ⟨hin, nm_r (by rw [en]; exact sf_bb_t hs z z') (nm_r (nI_1 i) (ih (i + 1) (by omega) (by omega)))⟩) (fun z' => nm_r (nI_1 i) ?_)⟩) (fun z => nm_r (nI_1 i) ?_)
    · rw [sf_bb_f (fun g => z' g.2)]
      exact ih (i + 1) (by omega) (by omega)
    · rw [sf_bb_f (fun g => z g.1)]
      exact ih (i + 1) (by omega) (by omega)
end YB

/-! the component's evaluation -/
def xe_H (n : Nat) (K st sc : Nat → Nat) (A B : Nat → Int32) (L : Nat → Int32 → List Int32) (ro : Nat → List Int32) (ki op ar lo so : Nat → Int32) : Prop :=
  n ≤ 16 ∧ sf_WF n K st ∧ sf_Sp n K A B st L ∧ sf_scp n K st sc ∧ sf_src n K B ∧ sf_Rw n sc L ro ∧ (∀ q, q < n → ((sf_E ro (sc q)).flatMap (L q)).length ≤ 216) ∧ (∀ q, q < n → (sf_E ro (sc q)).length ≤ 216) ∧ ∀ p, p < n → sf_XN ki op ar lo so A B K st sc p
section XE
variable {xh xn xd xr xl : Int32} {ki op ar lo so sz cc on vs ss ts re : Nat → Int32} {n : Nat} {K st sc : Nat → Nat} {A B : Nat → Int32} {L : Nat → Int32 → List Int32} {ro : Nat → List Int32}
theorem xe_sw {F : St2 → Prop} {p e d : Nat} {x : Int32} (H : xe_H n K st sc A B L ro ki op ar lo so) (hp : p < n) (hI : sf_XI sc L ro p vs ss ts) (he : (sf_E ro (sc p))[e]? = some x) (hd : d + (L p x).length ≤ 216) (ht : ts (p + 1) = nI d)
    (h : F (xh, xn, xd, xr, xl, ki, op, ar, lo, so, sz, cc, on, sf_ap vs ((p + 1) * 256 + d) (L p x), ss, upd ts (p + 1) (nI (d + (L p x).length)), re)) :
    ((nI (K p) < 0 → wpX_addConcatenated F (xh, xn, xd, xr, xl, ki, op, ar, lo, so, sz, cc, on, vs, ss, ts, re) (nI (p + 1)) (nI e)) ∧ (¬ nI (K p) < 0 → ((7 < nI (K p) → wpX_addConcatenated F (xh, xn, xd, xr, xl, ki, op, ar, lo, so, sz, cc, on, vs, ss, ts, re) (nI (p + 1)) (nI e)) ∧ (¬ 7 < nI (K p) →
    ((nI (K p) = 0 → vp_in (nI (p + 1)) 17 ∧ (vp_in (nI (p + 1)) 17 ∧ wpX_addRun F (xh, xn, xd, xr, xl, ki, op, ar, lo, so, sz, cc, on, vs, ss, ts, re) (nI (p + 1)) (ar (nI (p + 1)).toNatClampNeg) (op (nI (p + 1)).toNatClampNeg))) ∧ (¬ nI (K p) = 0 →
    ((nI (K p) = 1 → wpX_addInner F (xh, xn, xd, xr, xl, ki, op, ar, lo, so, sz, cc, on, vs, ss, ts, re) (nI (p + 1)) (nI e)) ∧ (¬ nI (K p) = 1 →
    ((nI (K p) = 2 → wpX_addMapped F (xh, xn, xd, xr, xl, ki, op, ar, lo, so, sz, cc, on, vs, ss, ts, re) (nI (p + 1)) (nI e)) ∧ (¬ nI (K p) = 2 →
    ((nI (K p) = 3 → wpX_addFiltered F (xh, xn, xd, xr, xl, ki, op, ar, lo, so, sz, cc, on, vs, ss, ts, re) (nI (p + 1)) (nI e)) ∧ (¬ nI (K p) = 3 →
    ((nI (K p) = 4 → wpX_addTaken F (xh, xn, xd, xr, xl, ki, op, ar, lo, so, sz, cc, on, vs, ss, ts, re) (nI (p + 1)) (nI e)) ∧ (¬ nI (K p) = 4 →
    ((nI (K p) = 5 → wpX_addDropped F (xh, xn, xd, xr, xl, ki, op, ar, lo, so, sz, cc, on, vs, ss, ts, re) (nI (p + 1)) (nI e)) ∧ (¬ nI (K p) = 5 →
    ((nI (K p) = 6 → wpX_addScanned F (xh, xn, xd, xr, xl, ki, op, ar, lo, so, sz, cc, on, vs, ss, ts, re) (nI (p + 1)) (nI e)) ∧ (¬ nI (K p) = 6 →
    ((nI (K p) = 7 → wpX_addZipped F (xh, xn, xd, xr, xl, ki, op, ar, lo, so, sz, cc, on, vs, ss, ts, re) (nI (p + 1)) (nI e)) ∧ (¬ nI (K p) = 7 → True)))))))))))))))))))) := by
  obtain ⟨H1, H2, H3, H4, H5, H6, H7, H8, H9⟩ := H
  obtain ⟨N1, N2, N3, N4, N5, N6, N7⟩ := H9 p hp
  have hel := sf_lt he
  have hE := H8 p hp
  have hin : vp_in (nI (p + 1)) 17 := vp_in_nI (by omega) (by decide)
  have e1 : (nI (p + 1)).toNatClampNeg = p + 1 := nI_clamp (by omega)
  have hk8 : K p ≤ 8 := by
    rcases H2 p hp with ⟨k, _⟩ | ⟨_, k, _⟩ | ⟨_, k, _⟩ <;> omega
  have hst := sf_st_le H2
  by_cases k0 : K p = 0
  · obtain ⟨b, hb, eb⟩ := H5 p hp (by omega)
    rw [sf_L0 H3 hp k0, eb, nI_clamp (by omega), sf_run_len] at h hd
    rw [k0, e1, (N3 (by omega)).1, (N3 (by omega)).2, eb]
    exact br_f (by decide) (br_f (by decide) (br_t rfl ⟨hin, hin, xu_run (by omega) hd ht h⟩))
  by_cases k1 : K p = 1
  · obtain ⟨b, hb, eb⟩ := H5 p hp (by omega)
    rw [sf_L1 H3 hp k1, eb, sf_run_len] at h hd
    rw [← (N3 (by omega)).2] at h
    have hsc := H4.1 p hp
    have := hst p hp
    have hx := (sf_XI_E H6 (by omega) hI (s := sc p) (by omega)).2 e x he
    rw [k1]
    exact br_f (by decide) (br_f (by decide) (br_f (by decide) (br_t rfl (xu_inner (by omega) (s := sc p) (by omega) (by omega) hb N2 hx ((N3 (by omega)).1.trans eb) hd ht h))))
  obtain ⟨c, rfl⟩ : ∃ c, p = c + 1 := by
    rcases H2 p hp with ⟨k, _⟩ | ⟨_, _, k, _⟩ | ⟨_, _, k, _⟩
    · omega
    · exact ⟨p - 1, by omega⟩
    · exact ⟨p - 1, by omega⟩
  by_cases k6 : K (c + 1) ≤ 6
  · have hsc := (H4.2 c hp).1 (by omega) k6
    obtain ⟨s, hs, s0, s1, hl⟩ := sf_XI_list (q := c) hI (H7 c (by omega)) (by omega) (by rw [hsc]; exact he)
    by_cases k2 : K (c + 1) = 2
    · rw [sf_L2 H3 hp k2, ← (N4 (by omega)).1, ← (N4 (by omega)).2] at h hd
      rw [List.length_map] at h hd
      rw [k2]
      exact br_f (by decide) (br_f (by decide) (br_f (by decide) (br_f (by decide) (br_t rfl (xu_map (by omega) (by omega) hs hd s0 s1 hl ht h)))))
    by_cases k3 : K (c + 1) = 3
    · rw [sf_L3 H3 hp k3, ← (N4 (by omega)).1, ← (N4 (by omega)).2] at h hd
      rw [k3]
      exact br_f (by decide) (br_f (by decide) (br_f (by decide) (br_f (by decide) (br_f (by decide) (br_t rfl (xu_filter (by omega) (by omega) hs hd s0 s1 hl ht h))))))
    by_cases k4 : K (c + 1) = 4
    · rw [sf_L4 H3 hp k4, ← N5 (by omega)] at h hd
      rw [k4]
      exact br_f (by decide) (br_f (by decide) (br_f (by decide) (br_f (by decide) (br_f (by decide) (br_f (by decide) (br_t rfl (xu_take (by omega) (by omega) hs hd s0 s1 hl ht h)))))))
    by_cases k5 : K (c + 1) = 5
    · rw [sf_L5 H3 hp k5, ← N5 (by omega)] at h hd
      rw [k5]
      exact br_f (by decide) (br_f (by decide) (br_f (by decide) (br_f (by decide) (br_f (by decide) (br_f (by decide) (br_f (by decide) (br_t rfl (xu_drop (by omega) (by omega) hs hd s0 s1 hl ht h))))))))
    · have k6' : K (c + 1) = 6 := by omega
      rw [sf_L6 H3 hp k6', ← (N4 (by omega)).1, ← (N4 (by omega)).2] at h hd
      rw [sf_scan_len] at h hd
      rw [k6']
      exact br_f (by decide) (br_f (by decide) (br_f (by decide) (br_f (by decide) (br_f (by decide) (br_f (by decide) (br_f (by decide) (br_f (by decide) (br_t rfl (xu_scan (by omega) (by omega) hs hd s0 s1 hl ht h)))))))))
  · obtain ⟨a, ea, hac⟩ : ∃ a, st c = a + 1 ∧ a + 1 ≤ c := by
      have := hst c (by omega)
      rcases H2 (c + 1) hp with ⟨k, _⟩ | ⟨_, k, _⟩ | ⟨_, _, _, h2, _⟩
      · omega
      · omega
      · rw [Nat.add_sub_cancel] at h2
        exact ⟨st c - 1, by omega, by omega⟩
    have hlo := N7 (by omega)
    rw [Nat.add_sub_cancel, ea] at hlo
    by_cases k7 : K (c + 1) = 7
    · have hsc := (H4.2 c hp).2.1 a ea k7
      obtain ⟨s, hs, s0, s1, hl⟩ := sf_XI_list (q := c) hI (H7 c (by omega)) (by omega) (by rw [hsc.1]; exact he)
      obtain ⟨t, ht', t0, t1, hm⟩ := sf_XI_list (q := a) hI (H7 a (by omega)) (by omega) (by rw [hsc.2]; exact he)
      rw [sf_L7 H3 hp k7 ea, ← N6 k7] at h hd
      rw [k7]
      exact br_f (by decide) (br_f (by decide) (br_f (by decide) (br_f (by decide) (br_f (by decide) (br_f (by decide) (br_f (by decide) (br_f (by decide) (br_f (by decide) (br_t rfl (xu_zip (a := a + 1) (by omega) (by omega) (by omega) ht' hs hd hlo t0 t1 s0 s1 hm hl ht h))))))))))
    · have k8 : K (c + 1) = 8 := by omega
      have hsc := (H4.2 c hp).2.2 a ea k8
      obtain ⟨s0, s1, t, q1, q2, q3, q4, q5, q6, q7, q8⟩ := sf_XI_cat (c := c) (a := a) H6 (by omega) hI (by omega) (by omega) hsc.1 (H7 a (by omega)) (H7 c (by omega)) (by rw [hsc.2]; exact he)
      rw [sf_L8 H3 hp k8 ea] at h hd
      rw [k8]
      exact br_f (by decide) (br_t (by decide) (xu_cat (a := a + 1) (by omega) (by omega) (by omega) q1 q2 q3 hd hlo q4 q5 q6 q7 q8 ht h))
theorem xe_loop {post : St2 → Prop} {p : Nat} (H : xe_H n K st sc A B L ro ki op ar lo so) (hp : p < n) (hI : sf_XI sc L ro p vs ss ts)
    (h : post (xh, xn, xd, xr, xl, ki, op, ar, lo, so, sz, cc, on, sf_ap vs ((p + 1) * 256) (sf_P (sf_E ro (sc p)) (L p) (sf_E ro (sc p)).length), sf_ap ss ((p + 1) * 256) (sf_S (sf_E ro (sc p)) (L p) (sf_E ro (sc p)).length), upd ts (p + 1) (nI (sf_P (sf_E ro (sc p)) (L p) (sf_E ro (sc p)).length).length), re)) :
    ∀ k e, e + k = (sf_E ro (sc p)).length → wX_evaluateNode_35 post (nI (p + 1)) (nI ((p + 1) * 256)) (nI (sf_E ro (sc p)).length) (k + 1) (nI e) xh xn xd xr xl ki op ar lo so sz cc on (sf_ap vs ((p + 1) * 256) (sf_P (sf_E ro (sc p)) (L p) e)) (sf_ap ss ((p + 1) * 256) (sf_S (sf_E ro (sc p)) (L p) e)) (upd ts (p + 1) (nI (sf_P (sf_E ro (sc p)) (L p) e).length)) re := by
  have H1 := H.1
  have hE := H.2.2.2.2.2.2.2.1 p hp
  have hB := H.2.2.2.2.2.2.1 p hp
  have N1 := (H.2.2.2.2.2.2.2.2 p hp).1
  intro k
  induction k with
  | zero =>
    intro e he
    have : e = (sf_E ro (sc p)).length := by omega
    subst this
    exact br_t (nI_le (Nat.le_refl _) (by omega)) h
  | succ k ih =>
    intro e he
    obtain ⟨x, hx⟩ := sf_ex (l := sf_E ro (sc p)) (i := e) (by omega)
    have hin : vp_in (nI (p + 1)) 17 := vp_in_nI (by omega) (by decide)
    have e1 : (nI (p + 1)).toNatClampNeg = p + 1 := nI_clamp (by omega)
    have e2 : nI ((p + 1) * 256) + nI e + 1 = nI ((p + 1) * 256 + e + 1) := by rw [nI_add, nI_1]
    have e3 : (nI ((p + 1) * 256 + e + 1)).toNatClampNeg = (p + 1) * 256 + e + 1 := nI_clamp (by omega)
    have eP := sf_P_s (f := L p) hx
    have eL : (sf_P (sf_E ro (sc p)) (L p) (e + 1)).length = (sf_P (sf_E ro (sc p)) (L p) e).length + (L p x).length := by rw [eP, List.length_append]
    have hle := sf_P_le (sf_E ro (sc p)) (L p) (e + 1)
    refine br_f (nI_ge (by omega) (by omega)) ⟨hin, nm_r (e' := nI (K p)) (by rw [e1, N1]) (xe_sw H hp (sf_XI_ap (fun q hq => H.2.2.2.2.2.2.1 q (by omega)) (fun q hq => H.2.2.2.2.2.2.2.1 q (by omega)) hI) hx (d := (sf_P (sf_E ro (sc p)) (L p) e).length) (by omega) pk_us ?_)⟩
    refine And.intro hin (And.intro (pk_in ((p + 1) * 256 + e + 1) 4352 (by omega) e2) (nm_r (e' := sf_ap ss ((p + 1) * 256) (sf_S (sf_E ro (sc p)) (L p) (e + 1))) ?_ (nm_r (nI_1 e) ?_)))
    · rw [e2, e3, e1, pk_us, ← eL]
      have := sf_ap_snoc ss ((p + 1) * 256) (sf_S (sf_E ro (sc p)) (L p) e) (nI (sf_P (sf_E ro (sc p)) (L p) (e + 1)).length)
      rw [sf_S_len, ← Nat.add_assoc] at this
      exact this
    · rw [sf_ap_ap, ← eP, sn_upd_upd, ← eL]
      exact ih (e + 1) (by omega)
theorem xe_node {post : St2 → Prop} {p : Nat} (H : xe_H n K st sc A B L ro ki op ar lo so) (hp : p < n) (hI : sf_XI sc L ro p vs ss ts)
    (h : ∀ vs' ss' ts', sf_XI sc L ro (p + 1) vs' ss' ts' → post (xh, xn, xd, xr, xl, ki, op, ar, lo, so, sz, cc, on, vs', ss', ts', re)) : wpX_evaluateNode post (xh, xn, xd, xr, xl, ki, op, ar, lo, so, sz, cc, on, vs, ss, ts, re) (nI (p + 1)) := by
  have H1 := H.1
  have hsc := H.2.2.2.1.1 p hp
  have hst := sf_st_le H.2.1 p hp
  have N2 := (H.2.2.2.2.2.2.2.2 p hp).2.1
  have hin : vp_in (nI (p + 1)) 17 := vp_in_nI (by omega) (by decide)
  have e1 : (nI (p + 1)).toNatClampNeg = p + 1 := nI_clamp (by omega)
  have e2 : nI (p + 1) * 256 = nI ((p + 1) * 256) := by rw [show (256 : Int32) = nI 256 from rfl, pk_mul]
  have e3 : (nI ((p + 1) * 256)).toNatClampNeg = (p + 1) * 256 := nI_clamp (by omega)
  have e4 : so (nI (p + 1)).toNatClampNeg = nI (sc p) := by rw [e1, N2]
  have e5 : (nI (sc p)).toNatClampNeg = sc p := nI_clamp (by omega)
  have hT := (sf_XI_E H.2.2.2.2.2.1 (by omega) hI (s := sc p) (by omega)).1
  have hstep := sf_XI_step (p := p) (fun q hq => H.2.2.2.2.2.2.1 q (by omega)) (fun q hq => H.2.2.2.2.2.2.2.1 q (by omega)) hI
  have hloop := xe_loop H hp hI (h _ _ _ hstep) (sf_E ro (sc p)).length 0 (by omega)
  refine nm_r e2 ⟨hin, pk_in (sc p) 17 (by omega) e4, nm_r (e' := nI (sf_E ro (sc p)).length) (by rw [e4, e5, hT]) ⟨hin, nm_r (e' := upd ts (p + 1) 0) (by rw [e1]) ⟨pk_in ((p + 1) * 256) 4352 (by omega), nm_r (e' := sf_ap ss ((p + 1) * 256) (sf_S (sf_E ro (sc p)) (L p) 0)) ?_ ⟨(sf_E ro (sc p)).length + 1, ?_⟩⟩⟩⟩
  · rw [e3]
    have := sf_ap_snoc ss ((p + 1) * 256) [] 0
    rw [sf_ap_nil] at this
    exact this
  · rw [sf_P_0, sf_ap_nil] at hloop
    exact hloop
theorem xe_pipe_l {post : Int32 → St2 → Prop} (H : xe_H n K st sc A B L ro ki op ar lo so) (hn : xn = nI n) (h : ∀ vs ss ts, sf_XI sc L ro n vs ss ts → post (nI (sf_rs (fun q => (ro q).length) 0 n)) (xh, xn, xd, xr, xl, ki, op, ar, lo, so, sz, cc, on, vs, ss, ts, re)) :
    ∀ k p vs ss ts, p + k = n → sf_XI sc L ro p vs ss ts → wX_evaluatePipeline_4 post (k + 1) (nI (sf_rs (fun q => (ro q).length) 0 p)) (nI (p + 1)) xh xn xd xr xl ki op ar lo so sz cc on vs ss ts re := by
  have H1 := H.1
  intro k
  induction k with
  | zero =>
    intro p vs ss ts hp hI
    have : p = n := by omega
    subst this
    exact br_t (by rw [hn]; exact nI_lt (by omega) (by omega)) (h vs ss ts hI)
  | succ k ih =>
    intro p vs ss ts hp hI
    have e1 : (nI (p + 1)).toNatClampNeg = p + 1 := nI_clamp (by omega)
    refine br_f (by rw [hn]; exact nI_nlt (by omega) (by omega)) (xe_node H (by omega) hI (fun vs' ss' ts' hI' => ?_))
    have hT := (sf_XI_E H.2.2.2.2.2.1 (by omega) hI' (s := p + 1) (by omega)).1
    refine And.intro (vp_in_nI (by omega) (by decide)) (nm_r (e' := nI (sf_rs (fun q => (ro q).length) 0 (p + 1))) ?_ (nm_r (nI_1 (p + 1)) (ih (p + 1) vs' ss' ts' (by omega) hI')))
    rw [e1, hT, nI_add, sf_rs_s, if_pos (Nat.zero_le _)]
    rfl
theorem xe_pipe {post : Int32 → St2 → Prop} (H : xe_H n K st sc A B L ro ki op ar lo so) (hn : xn = nI n) (h0 : ts 0 = 1) (h1 : vs 0 = 0) (h : ∀ vs ss ts, sf_XI sc L ro n vs ss ts → post (nI (sf_rs (fun q => (ro q).length) 0 n)) (xh, xn, xd, xr, xl, ki, op, ar, lo, so, sz, cc, on, vs, ss, ts, re)) : wpX_evaluatePipeline post (xh, xn, xd, xr, xl, ki, op, ar, lo, so, sz, cc, on, vs, ss, ts, re) :=
  ⟨n + 1, xe_pipe_l H hn h n 0 vs ss ts (by omega) ⟨h0, h1, fun q hq => absurd hq (Nat.not_lt_zero q)⟩⟩
theorem xe_keep_l {post : St2 → Prop} {l : List Int32} (hn : n ≤ 16) (hl : l.length ≤ 216) (hv : sf_Hd vs (n * 256) l) (h : post (xh, xn, xd, nI l.length, xl, ki, op, ar, lo, so, sz, cc, on, vs, ss, ts, sf_ap re 0 l)) :
    ∀ k i, i + k = l.length → wX_keepResult_24 post (nI (n * 256)) xh xn xd (nI l.length) xl (k + 1) (nI i) ki op ar lo so sz cc on vs ss ts (sf_ap re 0 (l.take i)) := by
  intro k
  induction k with
  | zero =>
    intro i hi
    have : i = l.length := by omega
    subst this
    rw [sf_take_all]
    exact br_t (nI_le (Nat.le_refl _) (by omega)) h
  | succ k ih =>
    intro i hi
    obtain ⟨v, hv'⟩ := sf_ex (l := l) (i := i) (by omega)
    have e1 : nI (n * 256) + nI i = nI (n * 256 + i) := nI_add _ _
    have e2 : (nI (n * 256 + i)).toNatClampNeg = n * 256 + i := nI_clamp (by omega)
    have e3 : (nI i).toNatClampNeg = i := nI_clamp (by omega)
    refine br_f (nI_ge (by omega) (by omega)) ⟨pk_in (n * 256 + i) 4352 (by omega) e1, vp_in_nI (by omega) (by decide), nm_r (e' := sf_ap re 0 (l.take (i + 1))) ?_ (nm_r (nI_1 i) (ih (i + 1) (by omega)))⟩
    rw [e1, e2, e3, hv i v hv', sf_take_s hv']
    have := sf_ap_snoc re 0 (l.take i) v
    rw [sf_tl (by omega), Nat.zero_add] at this
    exact this
theorem xe_keep {post : St2 → Prop} {l : List Int32} (hn : n ≤ 16) (en : xn = nI n) (hl : l.length ≤ 216) (ht : ts n = nI l.length) (hv : sf_Hd vs (n * 256) l) (h : post (xh, xn, xd, nI l.length, xl, ki, op, ar, lo, so, sz, cc, on, vs, ss, ts, sf_ap re 0 l)) : wpX_keepResult post (xh, xn, xd, xr, xl, ki, op, ar, lo, so, sz, cc, on, vs, ss, ts, re) := by
  have e1 : xn * 256 = nI (n * 256) := by rw [en, show (256 : Int32) = nI 256 from rfl, pk_mul]
  have e2 : (nI n).toNatClampNeg = n := nI_clamp (by omega)
  have := xe_keep_l hn hl hv h l.length 0 (by omega)
  rw [List.take_zero, sf_ap_nil] at this
  exact nm_r e1 ⟨pk_in n 17 (by omega) en, nm_r (e' := nI l.length) (by rw [en, e2, ht]) ⟨l.length + 1, this⟩⟩
end XE

/-! the component's primitives -/
theorem xu_ne {op c : Int32} (h : op < 0) (hc : ¬ c < 0) : ¬ op = c := fun e => hc (e ▸ h)
theorem xu_ne2 {op c m : Int32} (h : m < op) (hc : ¬ m < c) : ¬ op = c := fun e => hc (e ▸ h)
theorem xu_if {α : Type} {p : α → Prop} {c : Prop} [Decidable c] {a b : α} (h : p (if c then a else b)) : (c → p a) ∧ (¬ c → p b) := by
  refine ⟨fun z => ?_, fun z => ?_⟩
  · rw [if_pos z] at h; exact h
  · rw [if_neg z] at h; exact h
theorem xu_unary {post : Int32 → Prop} {op x k : Int32} (h : post (sf_un op k x)) : wpX_unary post () op x k := by
  have h8 : ∀ (_ : ¬ op = 0) (_ : ¬ op = 1) (_ : ¬ op = 2) (_ : ¬ op = 3) (_ : ¬ op = 4) (_ : ¬ op = 5) (_ : ¬ op = 6) (_ : ¬ op = 7), post (x * x) := by
    intro e0 e1 e2 e3 e4 e5 e6 e7
    unfold sf_un at h
    rw [if_neg e0, if_neg e1, if_neg e2, if_neg e3, if_neg e4, if_neg e5, if_neg e6, if_neg e7] at h
    exact h
  unfold sf_un at h
  refine br_c (fun hn => ?_) (fun hn => br_c (fun h7 => ?_) (fun h7 => ?_))
  · exact h8 (xu_ne hn (by decide)) (xu_ne hn (by decide)) (xu_ne hn (by decide)) (xu_ne hn (by decide)) (xu_ne hn (by decide)) (xu_ne hn (by decide)) (xu_ne hn (by decide)) (xu_ne hn (by decide))
  · exact h8 (xu_ne2 h7 (by decide)) (xu_ne2 h7 (by decide)) (xu_ne2 h7 (by decide)) (xu_ne2 h7 (by decide)) (xu_ne2 h7 (by decide)) (xu_ne2 h7 (by decide)) (xu_ne2 h7 (by decide)) (xu_ne2 h7 (by decide))
  · have g0 := xu_if h
    refine ⟨g0.1, fun e => ?_⟩
    have g1 := xu_if (g0.2 e)
    refine ⟨g1.1, fun e => ?_⟩
    have g2 := xu_if (g1.2 e)
    refine ⟨g2.1, fun e => ?_⟩
    have g3 := xu_if (g2.2 e)
    refine ⟨fun z => ⟨(xu_if (g3.1 z)).1, fun w => ⟨w, (xu_if (g3.1 z)).2 w⟩⟩, fun e => ?_⟩
    have g4 := xu_if (g3.2 e)
    refine ⟨fun z => ⟨(xu_if (g4.1 z)).1, fun w => ⟨w, (xu_if (g4.1 z)).2 w⟩⟩, fun e => ?_⟩
    have g5 := xu_if (g4.2 e)
    refine ⟨fun z => xu_if (g5.1 z), fun e => ?_⟩
    have g6 := xu_if (g5.2 e)
    refine ⟨fun z => xu_if (g6.1 z), fun e => ?_⟩
    have g7 := xu_if (g6.2 e)
    exact ⟨g7.1, fun _ => True.intro⟩
theorem xu_binary {post : Int32 → Prop} {op x k : Int32} (h : post (sf_bi op x k)) : wpX_binary post () op x k := by
  have h8 : ∀ (_ : ¬ op = 0) (_ : ¬ op = 1) (_ : ¬ op = 2) (_ : ¬ op = 3) (_ : ¬ op = 4) (_ : ¬ op = 5), post k := by
    intro e0 e1 e2 e3 e4 e5
    unfold sf_bi at h
    rw [if_neg e0, if_neg e1, if_neg e2, if_neg e3, if_neg e4, if_neg e5] at h
    exact h
  unfold sf_bi at h
  refine br_c (fun hn => ?_) (fun hn => br_c (fun h7 => ?_) (fun h7 => ?_))
  · exact h8 (xu_ne hn (by decide)) (xu_ne hn (by decide)) (xu_ne hn (by decide)) (xu_ne hn (by decide)) (xu_ne hn (by decide)) (xu_ne hn (by decide))
  · exact h8 (xu_ne2 h7 (by decide)) (xu_ne2 h7 (by decide)) (xu_ne2 h7 (by decide)) (xu_ne2 h7 (by decide)) (xu_ne2 h7 (by decide)) (xu_ne2 h7 (by decide))
  · have g0 := xu_if h
    refine ⟨g0.1, fun e => ?_⟩
    have g1 := xu_if (g0.2 e)
    refine ⟨g1.1, fun e => ?_⟩
    have g2 := xu_if (g1.2 e)
    refine ⟨g2.1, fun e => ?_⟩
    have g3 := xu_if (g2.2 e)
    refine ⟨fun z => xu_if (g3.1 z), fun e => ?_⟩
    have g4 := xu_if (g3.2 e)
    refine ⟨fun z => xu_if (g4.1 z), fun e => ?_⟩
    have g5 := xu_if (g4.2 e)
    exact ⟨g5.1, fun _ => True.intro⟩
def xu_b (b : Bool) : Int32 := if b = true then 1 else 0
theorem xu_dec {p : Int32 → Prop} {c : Prop} [Decidable c] (h : p (xu_b (decide c))) : (c → p 1) ∧ (¬ c → p 0) := by
  refine ⟨fun z => ?_, fun z => ?_⟩
  · rw [decide_eq_true z] at h; exact h
  · rw [decide_eq_false z] at h; exact h
theorem xu_decn {p : Int32 → Prop} {c : Prop} [Decidable c] (h : p (xu_b (decide (¬ c)))) : (c → p 0) ∧ (¬ c → p 1) := by
  refine ⟨fun z => ?_, fun z => ?_⟩
  · rw [decide_eq_false (fun g => g z)] at h; exact h
  · rw [decide_eq_true z] at h; exact h
theorem xu_dec2 {p : Int32 → Prop} {c d : Prop} [Decidable c] [Decidable d] (h : p (xu_b (decide (¬ c ∧ d)))) : (c → p 0) ∧ (¬ c → ¬ c ∧ ((d → p 1) ∧ (¬ d → p 0))) := by
  refine ⟨fun z => ?_, fun z => ⟨z, fun w => ?_, fun w => ?_⟩⟩
  · rw [decide_eq_false (fun g => g.1 z)] at h; exact h
  · rw [decide_eq_true ⟨z, w⟩] at h; exact h
  · rw [decide_eq_false (fun g => w g.2)] at h; exact h
theorem xu_holds {post : Int32 → Prop} {op x k : Int32} (h : post (xu_b (sf_pr op k x))) : wpX_holds post () op x k := by
  have h2 : ¬ (2 : Int32) = 0 := by decide
  have h8 : ∀ (_ : ¬ op = 0) (_ : ¬ op = 1) (_ : ¬ op = 2) (_ : ¬ op = 3) (_ : ¬ op = 4) (_ : ¬ op = 5), post (xu_b (decide (¬ k = 0 ∧ x - x / k * k = 0))) := by
    intro e0 e1 e2 e3 e4 e5
    unfold sf_pr at h
    rw [if_neg e0, if_neg e1, if_neg e2, if_neg e3, if_neg e4, if_neg e5] at h
    exact h
  unfold sf_pr at h
  refine br_c (fun hn => ?_) (fun hn => br_c (fun h7 => ?_) (fun h7 => ?_))
  · exact xu_dec2 (h8 (xu_ne hn (by decide)) (xu_ne hn (by decide)) (xu_ne hn (by decide)) (xu_ne hn (by decide)) (xu_ne hn (by decide)) (xu_ne hn (by decide)))
  · exact xu_dec2 (h8 (xu_ne2 h7 (by decide)) (xu_ne2 h7 (by decide)) (xu_ne2 h7 (by decide)) (xu_ne2 h7 (by decide)) (xu_ne2 h7 (by decide)) (xu_ne2 h7 (by decide)))
  · have g0 := xu_if (p := fun b => post (xu_b b)) h
    refine ⟨fun z => ⟨h2, xu_dec (g0.1 z)⟩, fun e => ?_⟩
    have g1 := xu_if (p := fun b => post (xu_b b)) (g0.2 e)
    refine ⟨fun z => ⟨h2, xu_decn (g1.1 z)⟩, fun e => ?_⟩
    have g2 := xu_if (p := fun b => post (xu_b b)) (g1.2 e)
    refine ⟨fun z => xu_decn (g2.1 z), fun e => ?_⟩
    have g3 := xu_if (p := fun b => post (xu_b b)) (g2.2 e)
    refine ⟨fun z => xu_decn (g3.1 z), fun e => ?_⟩
    have g4 := xu_if (p := fun b => post (xu_b b)) (g3.2 e)
    refine ⟨fun z => xu_dec (g4.1 z), fun e => ?_⟩
    have g5 := xu_if (p := fun b => post (xu_b b)) (g4.2 e)
    exact ⟨fun z => xu_decn (g5.1 z), fun _ => True.intro⟩
/-- clamp, where the answer is to be a natural -/
theorem xu_clamp {post : Int32 → Prop} {v : Int32} {m : Nat} (hm : m < 2 ^ 31) (h : post (nI (min v.toNatClampNeg m))) : wpX_clamp post () v 0 (nI m) := by
  refine br_c (fun h0 => ?_) (fun h0 => ?_)
  · obtain ⟨j, hj, rfl⟩ := nI_of (x := v) (Int32.not_lt.mpr h0)
    rw [nI_clamp hj] at h
    refine ⟨fun z => ?_, fun z => ?_⟩
    · have := (nI_leI hj hm).mp z
      rw [Nat.min_eq_left this] at h; exact h
    · have : ¬ j ≤ m := fun g => z ((nI_leI hj hm).mpr g)
      rw [Nat.min_eq_right (by omega)] at h; exact h
  · rw [sn_cl_neg (Int32.not_le.mp h0), Nat.min_eq_left (Nat.zero_le _)] at h
    exact h
section XP
variable {xh xn xd xr xl : Int32} {ki op ar lo so sz cc on vs ss ts re : Nat → Int32}
theorem xu_cell (q d : Nat) : nI q * 256 + nI d = nI (q * 256 + d) := by
  rw [show (256 : Int32) = nI 256 from rfl, pk_mul, nI_add]
theorem xu_append {post : St2 → Prop} {q d : Nat} {v : Int32} (hq : q < 17) (hd : d < 216) (ht : ts q = nI d) (h : post (xh, xn, xd, xr, xl, ki, op, ar, lo, so, sz, cc, on, upd vs (q * 256 + d) v, ss, upd ts q (nI (d + 1)), re)) : wpX_append post (xh, xn, xd, xr, xl, ki, op, ar, lo, so, sz, cc, on, vs, ss, ts, re) (nI q) v := by
  have e1 : (nI q).toNatClampNeg = q := nI_clamp (by omega)
  have e2 := xu_cell q d
  have e3 : (nI (q * 256 + d)).toNatClampNeg = q * 256 + d := nI_clamp (by omega)
  refine And.intro (vp_in_nI hq (by decide)) (nm_r (e' := nI d) (by rw [e1, ht]) (br_f (nI_ge (b := 216) hd (by decide)) ⟨pk_in (q * 256 + d) 4352 (by omega) e2, nm_r (e' := upd vs (q * 256 + d) v) (by rw [e2, e3]) ⟨vp_in_nI hq (by decide), nm_r (e' := upd ts q (nI (d + 1))) (by rw [e1, nI_1]) h⟩⟩))
theorem xu_run_l {post : St2 → Prop} {q d len : Nat} {a : Int32} (hq : q < 17) (hd : d + len ≤ 216) (h : post (xh, xn, xd, xr, xl, ki, op, ar, lo, so, sz, cc, on, sf_ap vs (q * 256 + d) (sf_run a len), ss, upd ts q (nI (d + len)), re)) :
    ∀ k i, i + k = len → wX_addRun_3 post (nI q) a (nI len) (k + 1) (nI i) xh xn xd xr xl ki op ar lo so sz cc on (sf_ap vs (q * 256 + d) (sf_run a i)) ss (upd ts q (nI (d + i))) re := by
  intro k
  induction k with
  | zero =>
    intro i hi
    have : i = len := by omega
    subst this
    exact br_t (nI_le (Nat.le_refl _) (by omega)) h
  | succ k ih =>
    intro i hi
    refine br_f (nI_ge (by omega) (by omega)) (xu_append hq (d := d + i) (by omega) pk_us (nm_r (nI_1 i) ?_))
    have e := sf_ap_snoc vs (q * 256 + d) (sf_run a i) (a + nI i)
    rw [sf_run_len, Nat.add_assoc] at e
    rw [e, sn_upd_upd]
    exact ih (i + 1) (by omega)
theorem xu_run {post : St2 → Prop} {q d len : Nat} {a : Int32} (hq : q < 17) (hd : d + len ≤ 216) (ht : ts q = nI d) (h : post (xh, xn, xd, xr, xl, ki, op, ar, lo, so, sz, cc, on, sf_ap vs (q * 256 + d) (sf_run a len), ss, upd ts q (nI (d + len)), re)) : wpX_addRun post (xh, xn, xd, xr, xl, ki, op, ar, lo, so, sz, cc, on, vs, ss, ts, re) (nI q) a (nI len) := by
  refine ⟨len + 1, ?_⟩
  have := xu_run_l hq hd h len 0 (by omega)
  rw [show sf_run a 0 = [] from rfl, sf_ap_nil, Nat.add_zero d, sn_upd_self ht] at this
  exact this
theorem xu_inner {post : St2 → Prop} {q d s e b : Nat} {x : Int32} (hq : q < 17) (hs : s < 17) (he : e < 256) (hb : b ≤ 6) (hsc : so q = nI s) (hx : vs (s * 256 + e) = x) (hop : op q = nI b) (hd : d + sf_il (nI b) x ≤ 216) (ht : ts q = nI d)
    (h : post (xh, xn, xd, xr, xl, ki, op, ar, lo, so, sz, cc, on, sf_ap vs (q * 256 + d) (sf_run (x + ar q) (sf_il (nI b) x)), ss, upd ts q (nI (d + sf_il (nI b) x)), re)) : wpX_addInner post (xh, xn, xd, xr, xl, ki, op, ar, lo, so, sz, cc, on, vs, ss, ts, re) (nI q) (nI e) := by
  have e1 : (nI q).toNatClampNeg = q := nI_clamp (by omega)
  have hin : vp_in (nI q) 17 := vp_in_nI hq (by decide)
  have e2 := xu_cell s e
  have e3 : (nI (s * 256 + e)).toNatClampNeg = s * 256 + e := nI_clamp (by omega)
  have hz : ¬ nI b + 1 = 0 := by rw [nI_1]; exact nI_ne0 (by omega) (by omega)
  have hl := (sf_il_b hb x).2
  refine And.intro hin (And.intro (pk_in (s * 256 + e) 4352 (by omega) (by rw [e1, hsc, e2])) (nm_r (e' := x) (by rw [e1, hsc, e2, e3, hx]) ⟨hin, nm_r (e' := nI b + 1) (by rw [e1, hop]) ⟨hz, hz, nm_r (e' := nI (sf_il (nI b) x)) hl ⟨hin, ?_⟩⟩⟩))
  rw [e1]
  exact xu_run hq hd ht h
end XP

/-! the law: its loops over the fragments, the checks behind a run -/
section PL
variable {xh xn xd xr xl : Int32} {ki op ar lo so sz cc on vs ss ts re : Nat → Int32}
variable {br bl : Int32} {bv bs bt bw : Nat → Int32} {post : Int32 → Prop} {L kc ks : Nat} {xs : Nat → Int32} {x4 x10 x11 : Int32}
variable {J36 : Int32 → Int32 → Int32 → Int32 → Int32 → Int32 → (Nat → Int32) → (Nat → Int32) → (Nat → Int32) → (Nat → Int32) → (Nat → Int32) → (Nat → Int32) → (Nat → Int32) → (Nat → Int32) → (Nat → Int32) → (Nat → Int32) → (Nat → Int32) → (Nat → Int32) → Int32 → Int32 → Int32 → Int32 → Int32 → (Nat → Int32) → (Nat → Int32) → (Nat → Int32) → (Nat → Int32) → (Nat → Int32) → (Nat → Int32) → (Nat → Int32) → (Nat → Int32) → (Nat → Int32) → (Nat → Int32) → (Nat → Int32) → (Nat → Int32) → Prop}
theorem pl_520_l (I : px_I xn xd ki op ar lo so sz cc on) (h : wL_law_520 post L xs J36 x4 kc ks xh xn xd xr xl ki op ar lo so sz cc on vs ss ts re xh xn xd (br) (bl) ki op ar lo so sz cc on (bv) (bs) (bt) (bw) 1 (nI 17)) :
    ∀ k i, i + k = 17 → wL_law_520 post L xs J36 x4 kc ks xh xn xd xr xl ki op ar lo so sz cc on vs ss ts re xh xn xd (br) (bl) ki op ar lo so sz cc on (bv) (bs) (bt) (bw) (k + 1) (nI i) := by
  intro k
  induction k with
  | zero =>
    intro i hi
    have : i = 17 := by omega
    subst this
    exact h
  | succ k ih =>
    intro i hi
    obtain ⟨r, hr⟩ := px_frag I (nI i)
    exact br_f (nI_nlt (a := 16) (by omega) (by decide)) (hr _ xh xr xl vs ss ts re (hr _ xh br bl bv bs bt bw (br_t rfl (nm_r (nI_1 i) (ih (i + 1) (by omega))))))
theorem pl_573_l (I : px_I xn xd ki op ar lo so sz cc on) (h : wL_law_573 post L xs J36 x4 x10 kc ks xh xn xd xr xl ki op ar lo so sz cc on vs ss ts re xh xn xd (br) (bl) ki op ar lo so sz cc on (bv) (bs) (bt) (bw) 1 (nI 17)) :
    ∀ k i, i + k = 17 → wL_law_573 post L xs J36 x4 x10 kc ks xh xn xd xr xl ki op ar lo so sz cc on vs ss ts re xh xn xd (br) (bl) ki op ar lo so sz cc on (bv) (bs) (bt) (bw) (k + 1) (nI i) := by
  intro k
  induction k with
  | zero =>
    intro i hi
    have : i = 17 := by omega
    subst this
    exact h
  | succ k ih =>
    intro i hi
    obtain ⟨r, hr⟩ := px_frag I (nI i)
    exact br_f (nI_nlt (a := 16) (by omega) (by decide)) (hr _ xh xr xl vs ss ts re (hr _ xh br bl bv bs bt bw (br_t rfl (nm_r (nI_1 i) (ih (i + 1) (by omega))))))
theorem pl_626_l (I : px_I xn xd ki op ar lo so sz cc on) (h : wL_law_626 post L xs J36 x4 x10 x11 kc ks xh xn xd xr xl ki op ar lo so sz cc on vs ss ts re xh xn xd (br) (bl) ki op ar lo so sz cc on (bv) (bs) (bt) (bw) 1 (nI 17)) :
    ∀ k i, i + k = 17 → wL_law_626 post L xs J36 x4 x10 x11 kc ks xh xn xd xr xl ki op ar lo so sz cc on vs ss ts re xh xn xd (br) (bl) ki op ar lo so sz cc on (bv) (bs) (bt) (bw) (k + 1) (nI i) := by
  intro k
  induction k with
  | zero =>
    intro i hi
    have : i = 17 := by omega
    subst this
    exact h
  | succ k ih =>
    intro i hi
    obtain ⟨r, hr⟩ := px_frag I (nI i)
    exact br_f (nI_nlt (a := 16) (by omega) (by decide)) (hr _ xh xr xl vs ss ts re (hr _ xh br bl bv bs bt bw (br_t rfl (nm_r (nI_1 i) (ih (i + 1) (by omega))))))
theorem pl_out {P : Int32 → Prop} {i m : Nat} {v : Int32} (hi : i < m) (hm : m ≤ 216) (hx : xr = nI m) (hv : re i = v) (h : P v) : wpX_out P (xh, xn, xd, xr, xl, ki, op, ar, lo, so, sz, cc, on, vs, ss, ts, re) (nI i) := by
  have e1 : (nI i).toNatClampNeg = i := nI_clamp (by omega)
  refine br_f (nI_pos (by omega)) (br_t (by rw [hx]; exact nI_lt hi (by omega)) ⟨vp_in_nI (by omega) (by decide), ?_⟩)
  rw [e1, hv]
  exact h
theorem pl_759 {l : List Int32} (hl : l.length ≤ 216) (h1 : xr = nI l.length) (h2 : br = nI l.length) (ha : sf_Hd re 0 l) (hb : sf_Hd bw 0 l) (hJ : J36 x4 xh xn xd xr xl ki op ar lo so sz cc on vs ss ts re xh xn xd (br) (bl) ki op ar lo so sz cc on (bv) (bs) (bt) (bw)) :
    ∀ k i, i + k = l.length → wL_law_759 post L xs J36 x4 (nI l.length) kc ks xh xn xd xr xl ki op ar lo so sz cc on vs ss ts re xh xn xd (br) (bl) ki op ar lo so sz cc on (bv) (bs) (bt) (bw) (k + 1) (nI i) := by
  intro k
  induction k with
  | zero =>
    intro i hi
    have : i = l.length := by omega
    subst this
    exact br_t (nI_le (Nat.le_refl _) (by omega)) hJ
  | succ k ih =>
    intro i hi
    obtain ⟨v, hv⟩ := sf_ex (l := l) (i := i) (by omega)
    have a1 := ha i v hv
    have b1 := hb i v hv
    rw [Nat.zero_add] at a1 b1
    exact br_f (nI_ge (by omega) (by omega)) (pl_out (by omega) hl h1 a1 (pl_out (by omega) hl h2 b1 (br_t rfl (nm_r (nI_1 i) (ih (i + 1) (by omega))))))
/-- the checks behind both runs: neither could run -/
theorem pl_fin6 (hJ : J36 x4 xh xn xd xr xl ki op ar lo so sz cc on vs ss ts re xh xn xd (br) (bl) ki op ar lo so sz cc on (bv) (bs) (bt) (bw)) : wL_law_670 post L xs J36 x4 6 6 kc ks xh xn xd xr xl ki op ar lo so sz cc on vs ss ts re xh xn xd (br) (bl) ki op ar lo so sz cc on (bv) (bs) (bt) (bw) := by
  have d1 : ¬ (6 : Int32) = 0 := by decide
  have d2 : ¬ (6 : Int32) = 7 := by decide
  exact br_f d1 (br_f d2 (br_t rfl (br_t rfl (br_t rfl (br_t rfl (br_f d1 (br_f d1 hJ)))))))
theorem pl_fin7 (hc : xl = 0) (hJ : J36 x4 xh xn xd xr xl ki op ar lo so sz cc on vs ss ts re xh xn xd (br) (bl) ki op ar lo so sz cc on (bv) (bs) (bt) (bw)) : wL_law_670 post L xs J36 x4 0 7 kc ks xh xn xd xr xl ki op ar lo so sz cc on vs ss ts re xh xn xd (br) (bl) ki op ar lo so sz cc on (bv) (bs) (bt) (bw) := by
  have d1 : ¬ (7 : Int32) = 0 := by decide
  have d2 : ¬ (0 : Int32) = 6 := by decide
  have d3 : ¬ (7 : Int32) = 6 := by decide
  exact br_f d1 (br_t rfl (br_f d2 (br_f d3 (br_t rfl (br_t rfl (br_t hc (br_f d1 hJ)))))))
theorem pl_fin0 {l : List Int32} (hl : l.length ≤ 216) (hc : xl = 0) (h1 : xr = nI l.length) (h2 : br = nI l.length) (ha : sf_Hd re 0 l) (hb : sf_Hd bw 0 l) (hJ : J36 x4 xh xn xd xr xl ki op ar lo so sz cc on vs ss ts re xh xn xd (br) (bl) ki op ar lo so sz cc on (bv) (bs) (bt) (bw)) : wL_law_670 post L xs J36 x4 0 0 kc ks xh xn xd xr xl ki op ar lo so sz cc on vs ss ts re xh xn xd (br) (bl) ki op ar lo so sz cc on (bv) (bs) (bt) (bw) := by
  have d2 : ¬ (0 : Int32) = 6 := by decide
  have key := pl_759 (post := post) (L := L) (xs := xs) (kc := kc) (ks := ks) hl h1 h2 ha hb hJ l.length 0 (by omega)
  rw [← h2] at key
  exact br_t rfl (br_f d2 (br_f d2 (br_t rfl (br_t rfl (br_t hc (br_t rfl (br_t (h1.trans h2.symm) ⟨_, key⟩)))))))
theorem pl_626 {r1 r2 : Int32} (I : px_I xn xd ki op ar lo so sz cc on) (h1 : r1 = 0 ∨ r1 = 6) (h : wL_law_670 post L xs J36 x4 r1 r2 kc ks xh xn xd xr xl ki op ar lo so sz cc on vs ss ts re xh xn xd (br) (bl) ki op ar lo so sz cc on (bv) (bs) (bt) (bw)) : ∃ f : Nat, wL_law_626 post L xs J36 x4 r1 r2 kc ks xh xn xd xr xl ki op ar lo so sz cc on vs ss ts re xh xn xd (br) (bl) ki op ar lo so sz cc on (bv) (bs) (bt) (bw) f 0 := by
  refine ⟨18, pl_626_l I ?_ 17 0 (by omega)⟩
  refine br_t (by decide) ?_
  rcases h1 with rfl | rfl
  · exact br_t rfl h
  · exact br_f (by decide) (br_t rfl h)
theorem pl_495 {r : Int32} (I : px_I xn xd ki op ar lo so sz cc on) (g1 : vs 0 = 0) (g2 : ts 0 = 1) (g3 : bv 0 = 0) (g4 : bt 0 = 1)
    (hJ : ∀ (xr xl br bl : Int32) (vs ss ts re bv bs bt bw : Nat → Int32), vs 0 = 0 → ts 0 = 1 → bv 0 = 0 → bt 0 = 1 → J36 x4 xh xn xd xr xl ki op ar lo so sz cc on vs ss ts re xh xn xd (br) (bl) ki op ar lo so sz cc on (bv) (bs) (bt) (bw)) : wL_law_495 post L xs J36 x4 r r kc ks xh xn xd xr xl ki op ar lo so sz cc on vs ss ts re xh xn xd (br) (bl) ki op ar lo so sz cc on (bv) (bs) (bt) (bw) := by
  refine br_t rfl (br_t rfl ⟨18, pl_520_l I (br_t (by decide) ?_) 17 0 (by omega)⟩)
  rcases pr_run I with N | ⟨l, c, hl, G⟩
  · refine N _ xh xr xl vs ss ts re 0 (Or.inl rfl) (br_t rfl ⟨18, pl_573_l I (br_t (by decide) ?_) 17 0 (by omega)⟩)
    exact N _ xh br bl bv bs bt bw 1 (Or.inr rfl) (br_t rfl (pl_626 I (Or.inr rfl) (pl_fin6 (hJ _ _ _ _ _ _ _ _ _ _ _ _ g1 g2 g3 g4))))
  · refine (G _ xh xr xl vs ss ts re g1 g2).1 (fun vs' ss' ts' a1 a2 => br_t rfl ⟨18, pl_573_l I (br_t (by decide) ?_) 17 0 (by omega)⟩)
    refine (G _ xh br bl bv bs bt bw g3 g4).2 (fun z bv' bs' bt' b1 b2 => br_t rfl (pl_626 I (Or.inl rfl) (pl_fin0 hl rfl rfl rfl (sf_ap_hd _ _ _) (sf_ap_hd _ _ _) (hJ _ _ _ _ _ _ _ _ _ _ _ _ a1 a2 b1 b2)))) (fun z bv' bs' bt' b1 b2 => br_t rfl (pl_626 I (Or.inl rfl) (pl_fin7 rfl (hJ _ _ _ _ _ _ _ _ _ _ _ _ a1 a2 b1 b2))))
end PL

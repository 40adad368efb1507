/-! the law's turns -/
theorem pt_cell (xs : Nat → Int32) {L p : Nat} (hL : L < 2 ^ 31) (hp : p < 2 ^ 31) : ∃ r : Int32, ∀ post : Int32 → Prop, post r → wpL_cell post L xs () (nI p) := by
  have e : (nI p).toNatClampNeg = p := nI_clamp hp
  by_cases g : L ≤ p
  · exact ⟨0, fun post h => br_t (nI_le g hp) h⟩
  · refine ⟨xs p, fun post h => br_f (nI_ge (by omega) hL) ⟨vp_in_nI (by omega) hL, ?_⟩⟩
    rw [e]
    exact h
theorem pt_mod {post : Int32 → Prop} {v m : Int32} (hm : ¬ m = 0) (h : post (sf_ilx m v)) : wpL_mod post () v m := And.intro hm (And.intro hm h)
theorem pt_small (v : Int32) : ∃ r : Int32, ∀ post : Int32 → Prop, post r → wpL_small post () v := by
  by_cases g : (v &&& 256) = 0
  · exact ⟨sf_ilx 41 v - 20, fun post h => br_t g (pt_mod (by decide) h)⟩
  · exact ⟨v, fun post h => br_f g h⟩
section PT
variable {xh xn xd xr xl : Int32} {ki op ar lo so sz cc on vs ss ts re : Nat → Int32}
variable {br bl : Int32} {bv bs bt bw : Nat → Int32} {post : Int32 → Prop} {L kc ks f p : Nat} {xs : Nat → Int32}
theorem pt_step (I : px_I xn xd ki op ar lo so sz cc on) (hL : L ≤ 260) (hp : p < L) (g1 : vs 0 = 0) (g2 : ts 0 = 1) (g3 : bv 0 = 0) (g4 : bt 0 = 1)
    (hJ : ∀ (xh xn xd xr xl br bl : Int32) (ki op ar lo so sz cc on vs ss ts re bv bs bt bw : Nat → Int32), px_I xn xd ki op ar lo so sz cc on → vs 0 = 0 → ts 0 = 1 → bv 0 = 0 → bt 0 = 1 → wL_law_36 post L xs kc ks f (nI (p + 3)) xh xn xd xr xl ki op ar lo so sz cc on vs ss ts re xh xn xd (br) (bl) ki op ar lo so sz cc on (bv) (bs) (bt) (bw)) : wL_law_36 post L xs kc ks (f + 1) (nI p) xh xn xd xr xl ki op ar lo so sz cc on vs ss ts re xh xn xd (br) (bl) ki op ar lo so sz cc on (bv) (bs) (bt) (bw) := by
  obtain ⟨c0, h0⟩ := pt_cell xs (L := L) (p := p) (by omega) (by omega)
  obtain ⟨x, hx⟩ := pt_cell xs (L := L) (p := p + 1) (by omega) (by omega)
  obtain ⟨y, hy⟩ := pt_cell xs (L := L) (p := p + 2) (by omega) (by omega)
  obtain ⟨sx, hsx⟩ := pt_small x
  obtain ⟨sy, hsy⟩ := pt_small y
  have e1 : nI p + 1 = nI (p + 1) := nI_1 p
  have e2 : nI p + 2 = nI (p + 2) := nI_add p 2
  have e3 : nI p + 3 = nI (p + 3) := nI_add p 3
  have m8 : ¬ (8 : Int32) = 0 := by decide
  have m9 : ¬ (9 : Int32) = 0 := by decide
  have m10 : ¬ (10 : Int32) = 0 := by decide
  refine br_f (nI_ge hp (by omega)) (h0 _ (pt_mod (by decide) ?_))
  rw [e1, e2]
  refine hx _ (hy _ (nm_r e3 ?_))
  refine br_c (fun _ => br_c (fun _ => ?_) (fun _ => br_c (fun _ => br_c (fun _ => ?_) (fun _ => br_c (fun _ => ?_) (fun _ => br_c (fun _ => ?_) (fun _ => br_c (fun _ => ?_) (fun _ => br_c (fun _ => br_c (fun _ => br_c (fun _ => ?_) (fun _ => ?_)) (fun _ => ?_)) (fun _ => ?_)))))) (fun _ => ?_))) (fun _ => ?_)
  · obtain ⟨r, xn', xd', ki', op', ar', lo', so', sz', cc', on', J, H⟩ := px_inner I sx (sf_ilx 8 y)
    exact hsx _ (pt_mod m8 (H _ xh xr xl vs ss ts re (hsx _ (pt_mod m8 (H _ xh br bl bv bs bt bw (pl_495 J g1 g2 g3 g4 (fun _ _ _ _ _ _ _ _ _ _ _ _ a1 a2 a3 a4 => hJ _ _ _ _ _ _ _ _ _ _ _ _ _ _ _ _ _ _ _ _ _ _ _ J a1 a2 a3 a4)))))))
  · obtain ⟨r, xn', xd', ki', op', ar', lo', so', sz', cc', on', J, H⟩ := px_filter I (sf_ilx 8 x) sy
    exact pt_mod m8 (hsy _ (H _ xh xr xl vs ss ts re (pt_mod m8 (hsy _ (H _ xh br bl bv bs bt bw (pl_495 J g1 g2 g3 g4 (fun _ _ _ _ _ _ _ _ _ _ _ _ a1 a2 a3 a4 => hJ _ _ _ _ _ _ _ _ _ _ _ _ _ _ _ _ _ _ _ _ _ _ _ J a1 a2 a3 a4)))))))
  · obtain ⟨r, xn', xd', ki', op', ar', lo', so', sz', cc', on', J, H⟩ := px_take I (sf_ilx 9 x - 1)
    exact pt_mod m9 (H _ xh xr xl vs ss ts re (pt_mod m9 (H _ xh br bl bv bs bt bw (pl_495 J g1 g2 g3 g4 (fun _ _ _ _ _ _ _ _ _ _ _ _ a1 a2 a3 a4 => hJ _ _ _ _ _ _ _ _ _ _ _ _ _ _ _ _ _ _ _ _ _ _ _ J a1 a2 a3 a4)))))
  · obtain ⟨r, xn', xd', ki', op', ar', lo', so', sz', cc', on', J, H⟩ := px_drop I (sf_ilx 9 x - 1)
    exact pt_mod m9 (H _ xh xr xl vs ss ts re (pt_mod m9 (H _ xh br bl bv bs bt bw (pl_495 J g1 g2 g3 g4 (fun _ _ _ _ _ _ _ _ _ _ _ _ a1 a2 a3 a4 => hJ _ _ _ _ _ _ _ _ _ _ _ _ _ _ _ _ _ _ _ _ _ _ _ J a1 a2 a3 a4)))))
  · obtain ⟨r, xn', xd', ki', op', ar', lo', so', sz', cc', on', J, H⟩ := px_scan I (sf_ilx 8 x) sy
    exact pt_mod m8 (hsy _ (H _ xh xr xl vs ss ts re (pt_mod m8 (hsy _ (H _ xh br bl bv bs bt bw (pl_495 J g1 g2 g3 g4 (fun _ _ _ _ _ _ _ _ _ _ _ _ a1 a2 a3 a4 => hJ _ _ _ _ _ _ _ _ _ _ _ _ _ _ _ _ _ _ _ _ _ _ _ J a1 a2 a3 a4)))))))
  · have J := px_0 ki op ar lo so sz cc on
    exact (pl_495 J g1 g2 g3 g4 (fun _ _ _ _ _ _ _ _ _ _ _ _ a1 a2 a3 a4 => hJ _ _ _ _ _ _ _ _ _ _ _ _ _ _ _ _ _ _ _ _ _ _ _ J a1 a2 a3 a4))
  · obtain ⟨r, xn', xd', ki', op', ar', lo', so', sz', cc', on', J, H⟩ := px_zip I (sf_ilx 8 x)
    exact pt_mod m8 (H _ xh xr xl vs ss ts re (pt_mod m8 (H _ xh br bl bv bs bt bw (pl_495 J g1 g2 g3 g4 (fun _ _ _ _ _ _ _ _ _ _ _ _ a1 a2 a3 a4 => hJ _ _ _ _ _ _ _ _ _ _ _ _ _ _ _ _ _ _ _ _ _ _ _ J a1 a2 a3 a4)))))
  · obtain ⟨r, xn', xd', ki', op', ar', lo', so', sz', cc', on', J, H⟩ := px_concatMap I
    exact H _ xh xr xl vs ss ts re (H _ xh br bl bv bs bt bw (pl_495 J g1 g2 g3 g4 (fun _ _ _ _ _ _ _ _ _ _ _ _ a1 a2 a3 a4 => hJ _ _ _ _ _ _ _ _ _ _ _ _ _ _ _ _ _ _ _ _ _ _ _ J a1 a2 a3 a4)))
  · obtain ⟨r, xn', xd', ki', op', ar', lo', so', sz', cc', on', J, H⟩ := px_zip I (sf_ilx 8 x)
    exact pt_mod m8 (H _ xh xr xl vs ss ts re (pt_mod m8 (H _ xh br bl bv bs bt bw (pl_495 J g1 g2 g3 g4 (fun _ _ _ _ _ _ _ _ _ _ _ _ a1 a2 a3 a4 => hJ _ _ _ _ _ _ _ _ _ _ _ _ _ _ _ _ _ _ _ _ _ _ _ J a1 a2 a3 a4)))))
  · obtain ⟨r, xn', xd', ki', op', ar', lo', so', sz', cc', on', J, H⟩ := px_map I (sf_ilx 10 x) sy
    exact pt_mod m10 (hsy _ (H _ xh xr xl vs ss ts re (pt_mod m10 (hsy _ (H _ xh br bl bv bs bt bw (pl_495 J g1 g2 g3 g4 (fun _ _ _ _ _ _ _ _ _ _ _ _ a1 a2 a3 a4 => hJ _ _ _ _ _ _ _ _ _ _ _ _ _ _ _ _ _ _ _ _ _ _ _ J a1 a2 a3 a4)))))))
  · obtain ⟨r, xn', xd', ki', op', ar', lo', so', sz', cc', on', J, H⟩ := px_range I sx (sf_ilx 8 y)
    exact hsx _ (pt_mod m8 (H _ xh xr xl vs ss ts re (hsx _ (pt_mod m8 (H _ xh br bl bv bs bt bw (pl_495 J g1 g2 g3 g4 (fun _ _ _ _ _ _ _ _ _ _ _ _ a1 a2 a3 a4 => hJ _ _ _ _ _ _ _ _ _ _ _ _ _ _ _ _ _ _ _ _ _ _ _ J a1 a2 a3 a4)))))))
end PT
theorem pt_loop {post : Int32 → Prop} {L kc ks : Nat} {xs : Nat → Int32} (hL : L ≤ 260) (h1 : post 1) : ∀ (f p : Nat), L ≤ p + 3 * f → p < 1000 → ∀ (xh xn xd xr xl br bl : Int32) (ki op ar lo so sz cc on vs ss ts re bv bs bt bw : Nat → Int32), px_I xn xd ki op ar lo so sz cc on → vs 0 = 0 → ts 0 = 1 → bv 0 = 0 → bt 0 = 1 → wL_law_36 post L xs kc ks (f + 1) (nI p) xh xn xd xr xl ki op ar lo so sz cc on vs ss ts re xh xn xd (br) (bl) ki op ar lo so sz cc on (bv) (bs) (bt) (bw) := by
  intro f
  induction f with
  | zero =>
    intro p hp hp' xh xn xd xr xl br bl ki op ar lo so sz cc on vs ss ts re bv bs bt bw I g1 g2 g3 g4
    exact br_t (nI_le (by omega) (by omega)) h1
  | succ f ih =>
    intro p hp hp' xh xn xd xr xl br bl ki op ar lo so sz cc on vs ss ts re bv bs bt bw I g1 g2 g3 g4
    by_cases g : L ≤ p
    · exact br_t (nI_le g (by omega)) h1
    · exact pt_step I hL (by omega) g1 g2 g3 g4 (fun xh xn xd xr xl br bl ki op ar lo so sz cc on vs ss ts re bv bs bt bw J a1 a2 a3 a4 => ih (p + 3) (by omega) (by omega) xh xn xd xr xl br bl ki op ar lo so sz cc on vs ss ts re bv bs bt bw J a1 a2 a3 a4)

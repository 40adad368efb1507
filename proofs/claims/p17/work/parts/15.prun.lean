/-! a run of either object: what it answers rests on what both keep alike -/
def pr_G (xn xd : Int32) (ki op ar lo so sz cc on : Nat → Int32) (l : List Int32) (c : Int32) : Prop :=
  l.length ≤ 216 ∧ ∀ (post : Int32 → St2 → Prop) (xh xr xl : Int32) (vs ss ts re : Nat → Int32), vs 0 = 0 → ts 0 = 1 →
    ((∀ vs' ss' ts', vs' 0 = 0 → ts' 0 = 1 → post 0 (xh, xn, xd, nI l.length, 0, ki, op, ar, lo, so, sz, cc, on, vs', ss', ts', sf_ap re 0 l)) → wpX_run post (xh, xn, xd, xr, xl, ki, op, ar, lo, so, sz, cc, on, vs, ss, ts, re) 0) ∧
    ((c ≤ xh → ∀ vs' ss' ts', vs' 0 = 0 → ts' 0 = 1 → post 0 (xh, xn, xd, nI l.length, c, ki, op, ar, lo, so, sz, cc, on, vs', ss', ts', sf_ap re 0 l)) → (¬ c ≤ xh → ∀ vs' ss' ts', vs' 0 = 0 → ts' 0 = 1 → post 7 (xh, xn, xd, 0, 0, ki, op, ar, lo, so, sz, cc, on, vs', ss', ts', re)) → wpX_run post (xh, xn, xd, xr, xl, ki, op, ar, lo, so, sz, cc, on, vs, ss, ts, re) 1)
def pr_N (xn xd : Int32) (ki op ar lo so sz cc on : Nat → Int32) : Prop :=
  ∀ (post : Int32 → St2 → Prop) (xh xr xl : Int32) (vs ss ts re : Nat → Int32) (m : Int32), m = 0 ∨ m = 1 → post 6 (xh, xn, xd, xr, xl, ki, op, ar, lo, so, sz, cc, on, vs, ss, ts, re) → wpX_run post (xh, xn, xd, xr, xl, ki, op, ar, lo, so, sz, cc, on, vs, ss, ts, re) m
section PR
variable {xh xn xd xr xl : Int32} {ki op ar lo so sz cc on vs ss ts re : Nat → Int32}
theorem pr_run (I : px_I xn xd ki op ar lo so sz cc on) : pr_N xn xd ki op ar lo so sz cc on ∨ ∃ l c, pr_G xn xd ki op ar lo so sz cc on l c := by
  obtain ⟨n, d, K, st, sc, R, A, B, P, E2, E4, E5, E7, E8⟩ := I
  have hn := P.1
  have hd := sf_d_le P
  by_cases g : d = 1
  · subst g
    by_cases ho : on 0 = 0
    · right
      obtain ⟨P1, P2, P3, P4, P5, P6, P7⟩ := P
      obtain ⟨q1, q2, q3⟩ := P7 0 (by omega)
      rw [P6, P5] at q1 q2
      rw [P6] at q3
      obtain ⟨L, hL⟩ := sf_exL P2 A B
      obtain ⟨ro, hr⟩ := sf_exR P2 P3 L
      have hb := sf_bnd P2 hL P4 E7 P3 hr (n - 1) (by omega) (by
        rw [q3]
        show 1 * _ ≤ 216
        rw [Nat.one_mul]
        exact sf_216 (sf_g3 K st _))
      have hb' : ∀ q, q < n → (sf_E ro (sc q)).length * 6 ^ sf_g K st q ≤ 216 := fun q hq => hb q (by omega) (by omega)
      have hB : ∀ q, q < n → ((sf_E ro (sc q)).flatMap (L q)).length ≤ 216 := by
        intro q hq
        have := sf_row_le P2 hL P4 E7 hr hq
        rw [hr q hq] at this
        exact Nat.le_trans this (hb' q hq)
      have hE : ∀ q, q < n → (sf_E ro (sc q)).length ≤ 216 := fun q hq => Nat.le_trans (Nat.le_mul_of_pos_right _ (Nat.pow_pos (by omega))) (hb' q hq)
      have HX : xe_H n K st sc A B L ro ki op ar lo so := ⟨P1, P2, hL, P3, E7, hr, hB, hE, E5⟩
      have hlen : (sf_E ro n).length ≤ 216 := by
        obtain ⟨m, rfl⟩ : ∃ m, n = m + 1 := ⟨n - 1, by omega⟩
        show (ro m).length ≤ 216
        rw [hr m (by omega)]
        exact hB m (by omega)
      have hne : ¬ (1 : Int32) = 0 := by decide
      have hne' : ¬ (0 : Int32) = 1 := by decide
      refine ⟨sf_E ro n, nI (sf_rs (fun q => (ro q).length) 0 n), hlen, fun post xh xr xl vs ss ts re g0 g1 => ⟨fun h => br_t rfl (br_t E4 (br_t ho (xe_pipe HX E2 g1 g0 (fun vs' ss' ts' hI => br_f hne' ?_)))), fun h h7 => br_f hne (br_t rfl (br_t E4 (br_t ho (xe_pipe HX E2 g1 g0 (fun vs' ss' ts' hI => br_t rfl (br_c (fun z => ?_) (fun z => h7 z vs' ss' ts' hI.2.1 hI.1)))))))⟩⟩
      · have hXn := sf_XI_E hr (Nat.le_refl n) hI (s := n) (Nat.le_refl n)
        unfold wX_run_62
        exact xe_keep P1 E2 hlen hXn.1 hXn.2 (br_f hne' (h vs' ss' ts' hI.2.1 hI.1))
      · have hXn := sf_XI_E hr (Nat.le_refl n) hI (s := n) (Nat.le_refl n)
        unfold wX_run_62
        exact xe_keep P1 E2 hlen hXn.1 hXn.2 (br_t rfl (h z vs' ss' ts' hI.2.1 hI.1))
    · left
      intro post xh xr xl vs ss ts re m hm h
      rcases hm with rfl | rfl
      · exact br_t rfl (br_t E4 (br_f ho h))
      · exact br_f (by decide) (br_t rfl (br_t E4 (br_f ho h)))
  · left
    have g' : ¬ xd = 1 := by
      rw [E4]
      intro z
      exact g (sn_im (b := 1) z (by omega) (by decide))
    intro post xh xr xl vs ss ts re m hm h
    rcases hm with rfl | rfl
    · exact br_t rfl (br_f g' h)
    · exact br_f (by decide) (br_t rfl (br_f g' h))
end PR

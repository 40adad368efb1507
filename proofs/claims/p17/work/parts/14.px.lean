/-! what both objects keep alike, and the building calls -/
def px_I (xn xd : Int32) (ki op ar lo so sz cc on : Nat → Int32) : Prop :=
  ∃ (n d : Nat) (K st sc R : Nat → Nat) (A B : Nat → Int32), sf_PF n d K st sc R ∧ xn = nI n ∧ xd = nI d ∧ (∀ p, p < n → sf_XN ki op ar lo so A B K st sc p) ∧ sf_src n K B ∧ sf_SK sz cc on d K sc R
def px_R (xn xd : Int32) (ki op ar lo so sz cc on : Nat → Int32) (W : (Int32 → St2 → Prop) → St2 → Prop) : Prop :=
  ∃ (r xn' xd' : Int32) (ki' op' ar' lo' so' sz' cc' on' : Nat → Int32), px_I xn' xd' ki' op' ar' lo' so' sz' cc' on' ∧
    ∀ (post : Int32 → St2 → Prop) (xh xr xl : Int32) (vs ss ts re : Nat → Int32), post r (xh, xn', xd', xr, xl, ki', op', ar', lo', so', sz', cc', on', vs, ss, ts, re) → W post (xh, xn, xd, xr, xl, ki, op, ar, lo, so, sz, cc, on, vs, ss, ts, re)
theorem px_src_add {n k b : Nat} {K : Nat → Nat} {B : Nat → Int32} (h : sf_src n K B) (hb : k ≤ 1 → b ≤ 6) {v : Int32} (ev : k ≤ 1 → v = nI b) : sf_src (n + 1) (sf_u K n k) (upd B n v) := by
  intro p hp hk
  by_cases e : p = n
  · subst e
    rw [sf_us] at hk
    exact ⟨b, hb hk, by rw [pk_us, ev hk]⟩
  · rw [sf_un' e] at hk
    rw [pk_un e]
    exact h p (by omega) hk
theorem px_k8 {n p : Nat} {K st : Nat → Nat} (w : sf_WF n K st) (hp : p < n) : K p ≤ 8 := by
  rcases w p hp with ⟨k, _⟩ | ⟨_, k, _⟩ | ⟨_, k, _⟩ <;> omega
section PX
variable {xh xn xd xr xl : Int32} {ki op ar lo so sz cc on vs ss ts re : Nat → Int32}
theorem px_same {W : (Int32 → St2 → Prop) → St2 → Prop} (I : px_I xn xd ki op ar lo so sz cc on) (r : Int32) (h : ∀ (post : Int32 → St2 → Prop) (xh xr xl : Int32) (vs ss ts re : Nat → Int32), post r (xh, xn, xd, xr, xl, ki, op, ar, lo, so, sz, cc, on, vs, ss, ts, re) → W post (xh, xn, xd, xr, xl, ki, op, ar, lo, so, sz, cc, on, vs, ss, ts, re)) : px_R xn xd ki op ar lo so sz cc on W :=
  ⟨r, xn, xd, ki, op, ar, lo, so, sz, cc, on, I, h⟩
theorem px_src {W : (Int32 → St2 → Prop) → St2 → Prop} {k : Nat} {a b o : Int32} (I : px_I xn xd ki op ar lo so sz cc on) (hk : k ≤ 1) (ho : o = if k = 1 then 1 else 0) (hn' : vp_nar .boolean o = o)
    (hW : ∀ (post : Int32 → St2 → Prop) (xh xr xl : Int32) (vs ss ts re : Nat → Int32), ((xn = 16 → post 3 (xh, xn, xd, xr, xl, ki, op, ar, lo, so, sz, cc, on, vs, ss, ts, re)) ∧ (¬ xn = 16 → wpX_clamp (fun r_2 => wpX_pushSource (fun u => match u with | (xh, xn, xd, xr, xl, ki, op, ar, lo, so, sz, cc, on, vs, ss, ts, re) => post 0 (xh, xn, xd, xr, xl, ki, op, ar, lo, so, sz, cc, on, vs, ss, ts, re)) (xh, xn, xd, xr, xl, ki, op, ar, lo, so, sz, cc, on, vs, ss, ts, re) (nI k) r_2 a o) () b 0 6)) → W post (xh, xn, xd, xr, xl, ki, op, ar, lo, so, sz, cc, on, vs, ss, ts, re)) : px_R xn xd ki op ar lo so sz cc on W := by
  obtain ⟨n, d, K, st, sc, R, A, B, P, E2, E4, E5, E7, E8⟩ := I
  have hn := P.1
  have hd := sf_d_le P
  by_cases g : n = 16
  · refine px_same ⟨n, d, K, st, sc, R, A, B, P, E2, E4, E5, E7, E8⟩ 3 (fun post xh xr xl vs ss ts re h => hW post xh xr xl vs ss ts re (pk_eq n 16 (fun _ => h) (fun g' => absurd g g') E2))
  · refine ⟨0, nI (n + 1), nI (d + 1), upd ki (n + 1) (nI k), upd op (n + 1) (nI (min b.toNatClampNeg 6)), upd ar (n + 1) a, lo, upd so (n + 1) 0, upd sz d 1, upd cc d 0, upd on d o, ?_, fun post xh xr xl vs ss ts re h => hW post xh xr xl vs ss ts re (pk_eq n 16 (fun g' => absurd g' g) (fun _ => xu_clamp (m := 6) (by decide) (xb_push E2 E4 (by omega) (by omega) hn' h)) E2)⟩
    refine ⟨n + 1, d + 1, sf_u K n k, sf_u st n n, sf_u sc n 0, sf_u R (d + 1) (n + 1), upd A n a, upd B n (nI (min b.toNatClampNeg 6)), sf_PF1 P (by omega) hk, rfl, rfl, fun p hp => ?_, px_src_add (b := min b.toNatClampNeg 6) E7 (fun _ => Nat.min_le_right _ _) (fun _ => rfl), sf_SK1 P hk ho E8⟩
    by_cases e : p = n
    · subst e
      exact sf_XN_new (fun _ => ⟨rfl, rfl⟩) (fun g => by omega) (fun g => by omega) (fun g => by omega) (fun g => by omega)
    · exact sf_XN_old (by omega) (E5 p (by omega)) (E5 p (by omega)).2.1
theorem px_range (I : px_I xn xd ki op ar lo so sz cc on) (a b : Int32) : px_R xn xd ki op ar lo so sz cc on (fun post u => wpX_range post u a b) :=
  px_src (k := 0) I (by decide) rfl rl_b0 (fun post xh xr xl vs ss ts re h => h)
theorem px_inner (I : px_I xn xd ki op ar lo so sz cc on) (a b : Int32) : px_R xn xd ki op ar lo so sz cc on (fun post u => wpX_inner post u a b) :=
  px_src (k := 1) I (by decide) rfl rl_b1 (fun post xh xr xl vs ss ts re h => h)
theorem px_ext {k : Nat} {a b : Int32} (I : px_I xn xd ki op ar lo so sz cc on) (hk : 2 ≤ k) (hk' : k ≤ 6) : px_R xn xd ki op ar lo so sz cc on (fun post u => wpX_extendTop post u (nI k) a b) := by
  have I' := I
  obtain ⟨n, d, K, st, sc, R, A, B, P, E2, E4, E5, E7, E8⟩ := I
  have hn := P.1
  have hd := sf_d_le P
  by_cases g0 : d = 0
  · exact px_same I' 2 (fun post xh xr xl vs ss ts re h => xb_ext E2 E4 hn hd (fun _ => h) (fun z => absurd g0 z) (fun e z => by omega))
  by_cases g : n = 16
  · exact px_same I' 3 (fun post xh xr xl vs ss ts re h => xb_ext E2 E4 hn hd (fun z => absurd z g0) (fun _ _ => h) (fun e _ z => by omega))
  obtain ⟨e, rfl⟩ : ∃ e, d = e + 1 := ⟨d - 1, by omega⟩
  refine ⟨0, nI (n + 1), xd, upd ki (n + 1) (nI k), upd op (n + 1) a, upd ar (n + 1) b, lo, upd so (n + 1) 0, upd sz e (sz e + 1), cc, on, ?_, fun post xh xr xl vs ss ts re h => xb_ext E2 E4 hn hd (fun z => absurd z g0) (fun _ z => absurd z g) (fun e' z _ => ?_)⟩
  · by_cases k4 : k = 4 ∨ k = 5
    · refine ⟨n + 1, e + 1, sf_u K n k, sf_u st n (R e), sf_u sc n 0, sf_u R (e + 1) (n + 1), upd A n b, upd B n 0, sf_PF2 P (by omega) hk hk', rfl, E4, fun p hp => ?_, px_src_add (b := 0) E7 (fun g => by omega) (fun g => by omega), sf_SK2 P hk hk' E8⟩
      by_cases ep : p = n
      · subst ep
        exact sf_XN_new (fun g => by omega) (fun g => by omega) (fun _ => rfl) (fun g => by omega) (fun g => by omega)
      · exact sf_XN_old (by omega) (E5 p (by omega)) (E5 p (by omega)).2.1
    · refine ⟨n + 1, e + 1, sf_u K n k, sf_u st n (R e), sf_u sc n 0, sf_u R (e + 1) (n + 1), upd A n a, upd B n b, sf_PF2 P (by omega) hk hk', rfl, E4, fun p hp => ?_, px_src_add (b := 0) E7 (fun g => by omega) (fun g => by omega), sf_SK2 P hk hk' E8⟩
      by_cases ep : p = n
      · subst ep
        exact sf_XN_new (fun g => by omega) (fun _ => ⟨rfl, rfl⟩) (fun g => absurd g k4) (fun g => by omega) (fun g => by omega)
      · exact sf_XN_old (by omega) (E5 p (by omega)) (E5 p (by omega)).2.1
  · have : e' = e := by omega
    subst this
    exact h
theorem px_op3 {W : (Int32 → St2 → Prop) → St2 → Prop} {k : Nat} {mx a b : Int32} (I : px_I xn xd ki op ar lo so sz cc on) (hk : 2 ≤ k) (hk' : k ≤ 6)
    (hW : ∀ (post : Int32 → St2 → Prop) (xh xr xl : Int32) (vs ss ts re : Nat → Int32), ((a < 0 → post 1 (xh, xn, xd, xr, xl, ki, op, ar, lo, so, sz, cc, on, vs, ss, ts, re)) ∧ (¬ a < 0 → ((a ≤ mx → wpX_extendTop (fun r_3 u => match u with | (xh, xn, xd, xr, xl, ki, op, ar, lo, so, sz, cc, on, vs, ss, ts, re) => post r_3 (xh, xn, xd, xr, xl, ki, op, ar, lo, so, sz, cc, on, vs, ss, ts, re)) (xh, xn, xd, xr, xl, ki, op, ar, lo, so, sz, cc, on, vs, ss, ts, re) (nI k) a b) ∧ (¬ a ≤ mx → post 1 (xh, xn, xd, xr, xl, ki, op, ar, lo, so, sz, cc, on, vs, ss, ts, re))))) → W post (xh, xn, xd, xr, xl, ki, op, ar, lo, so, sz, cc, on, vs, ss, ts, re)) : px_R xn xd ki op ar lo so sz cc on W := by
  by_cases h : a < 0
  · exact px_same I 1 (fun post xh xr xl vs ss ts re h' => hW post xh xr xl vs ss ts re (br_t h h'))
  by_cases h8 : a ≤ mx
  · obtain ⟨r, xn', xd', ki', op', ar', lo', so', sz', cc', on', J, H⟩ := px_ext (a := a) (b := b) I hk hk'
    exact ⟨r, xn', xd', ki', op', ar', lo', so', sz', cc', on', J, fun post xh xr xl vs ss ts re h' => hW post xh xr xl vs ss ts re (br_f h (br_t h8 (H _ xh xr xl vs ss ts re h')))⟩
  · exact px_same I 1 (fun post xh xr xl vs ss ts re h' => hW post xh xr xl vs ss ts re (br_f h (br_f h8 h')))
theorem px_map (I : px_I xn xd ki op ar lo so sz cc on) (a b : Int32) : px_R xn xd ki op ar lo so sz cc on (fun post u => wpX_map post u a b) :=
  px_op3 (k := 2) I (by decide) (by decide) (fun post xh xr xl vs ss ts re h => h)
theorem px_filter (I : px_I xn xd ki op ar lo so sz cc on) (a b : Int32) : px_R xn xd ki op ar lo so sz cc on (fun post u => wpX_filter post u a b) :=
  px_op3 (k := 3) I (by decide) (by decide) (fun post xh xr xl vs ss ts re h => h)
theorem px_scan (I : px_I xn xd ki op ar lo so sz cc on) (a b : Int32) : px_R xn xd ki op ar lo so sz cc on (fun post u => wpX_scan post u a b) :=
  px_op3 (k := 6) I (by decide) (by decide) (fun post xh xr xl vs ss ts re h => h)
theorem px_take (I : px_I xn xd ki op ar lo so sz cc on) (a : Int32) : px_R xn xd ki op ar lo so sz cc on (fun post u => wpX_take post u a) := by
  obtain ⟨r, xn', xd', ki', op', ar', lo', so', sz', cc', on', J, H⟩ := px_ext (k := 4) (a := 0) (b := a) I (by decide) (by decide)
  refine ⟨r, xn', xd', ki', op', ar', lo', so', sz', cc', on', J, fun post xh xr xl vs ss ts re h' => ?_⟩
  dsimp only
  unfold wpX_take
  exact H _ xh xr xl vs ss ts re h'
theorem px_drop (I : px_I xn xd ki op ar lo so sz cc on) (a : Int32) : px_R xn xd ki op ar lo so sz cc on (fun post u => wpX_drop post u a) := by
  obtain ⟨r, xn', xd', ki', op', ar', lo', so', sz', cc', on', J, H⟩ := px_ext (k := 5) (a := 0) (b := a) I (by decide) (by decide)
  refine ⟨r, xn', xd', ki', op', ar', lo', so', sz', cc', on', J, fun post xh xr xl vs ss ts re h' => ?_⟩
  dsimp only
  unfold wpX_drop
  exact H _ xh xr xl vs ss ts re h'
theorem px_zip (I : px_I xn xd ki op ar lo so sz cc on) (v1 : Int32) : px_R xn xd ki op ar lo so sz cc on (fun post u => wpX_zip post u v1) := by
  have I' := I
  obtain ⟨n, d, K, st, sc, R, A, B, P, E2, E4, E5, E7, E8⟩ := I
  have hn := P.1
  have hd := sf_d_le P
  by_cases h : v1 < 0
  · exact px_same I' 1 (fun post xh xr xl vs ss ts re h' => br_t h h')
  by_cases h6 : v1 ≤ 6
  · by_cases g : 2 ≤ d
    · by_cases g6 : n = 16
      · exact px_same I' 3 (fun post xh xr xl vs ss ts re h' => br_f h (br_t h6 (pk_le 2 d (fun _ => pk_eq n 16 (fun _ => h') (fun z => absurd g6 z) E2) (fun z => by omega) rfl E4)))
      · obtain ⟨e, rfl⟩ : ∃ e, d = e + 2 := ⟨d - 2, by omega⟩
        obtain ⟨t1, t2, t3, t4, t5, t6, t7⟩ := sf_sec P
        have i1 : xd - 1 = nI (e + 1) := by rw [E4]; exact nI_pred (e + 1)
        have i2 : xd - 2 = nI e := by rw [E4]; exact sn_sub (a := e + 2) (b := 2) rfl
        have j1 : (nI (e + 1)).toNatClampNeg = e + 1 := nI_clamp (by omega)
        have j2 : (nI e).toNatClampNeg = e := nI_clamp (by omega)
        have s1 := E8 e (by omega)
        have s2 := E8 (e + 1) (by omega)
        have hz : sz (e + 1) = nI (n - R (e + 1)) := by rw [s2.1]; exact congrArg nI (by rw [P.2.2.2.2.2.1])
        have key : ∀ o : Int32, vp_nar .boolean o = o → (on e = 1 ∨ on (e + 1) = 1 → o = 1) ∧ (on e = 0 ∧ on (e + 1) = 0 → o = 0) → (∀ (post : Int32 → St2 → Prop) (xh xr xl : Int32) (vs ss ts re : Nat → Int32), wX_zip_66 post v1 o xh xn xd xr xl ki op ar lo so sz cc on vs ss ts re → wpX_zip post (xh, xn, xd, xr, xl, ki, op, ar, lo, so, sz, cc, on, vs, ss, ts, re) v1) → px_R xn xd ki op ar lo so sz cc on (fun post u => wpX_zip post u v1) := by
          intro o ho1 ho2 hW
          refine ⟨0, nI (n + 1), nI (e + 1), upd ki (n + 1) (nI 7), upd op (n + 1) v1, upd ar (n + 1) 0, upd lo (n + 1) (nI (R (e + 1))), upd so (n + 1) 0, upd sz e (sz e + (sz (e + 1) + 1)), upd cc e (cc e + cc (e + 1)), upd on e o, ?_, fun post xh xr xl vs ss ts re h' => hW post xh xr xl vs ss ts re ?_⟩
          · refine ⟨n + 1, e + 1, sf_u K n 7, sf_u st n (R e), sf_u sc n 0, sf_u R (e + 1) (n + 1), upd A n v1, upd B n 0, sf_PF7 P (by omega), rfl, rfl, fun p hp => ?_, px_src_add (b := 0) E7 (fun g => by omega) (fun g => by omega), sf_SK7 P E8 ho2⟩
            by_cases ep : p = n
            · subst ep
              exact sf_XN_new (fun g => by omega) (fun g => by omega) (fun g => by omega) (fun _ => rfl) (fun _ => ⟨by omega, by rw [pk_us, t3]⟩)
            · exact sf_XN_old (by omega) (sf_XN_lo (by omega) (E5 p (by omega))) (E5 p (by omega)).2.1
          · unfold wX_zip_66
            exact xb_join (s := R (e + 1)) E2 E4 (by omega) hd (by omega) hz ⟨pk_in e 16 (by omega) (nI_pred e), nm_r (e' := upd on e o) (by rw [nI_pred, j2, ho1]) h'⟩
        have head : ∀ (post : Int32 → St2 → Prop) (xh xr xl : Int32) (vs ss ts re : Nat → Int32), (vp_in (xd - 2) 16 ∧ ((on (xd - 2).toNatClampNeg = 0 → (vp_in (xd - 1) 16 ∧ ((on (xd - 1).toNatClampNeg = 0 → wX_zip_66 post v1 0 xh xn xd xr xl ki op ar lo so sz cc on vs ss ts re) ∧ (¬ on (xd - 1).toNatClampNeg = 0 → wX_zip_61 post v1 xh xn xd xr xl ki op ar lo so sz cc on vs ss ts re)))) ∧ (¬ on (xd - 2).toNatClampNeg = 0 → wX_zip_61 post v1 xh xn xd xr xl ki op ar lo so sz cc on vs ss ts re))) → wpX_zip post (xh, xn, xd, xr, xl, ki, op, ar, lo, so, sz, cc, on, vs, ss, ts, re) v1 := by
          intro post xh xr xl vs ss ts re h'
          exact br_f h (br_t h6 (pk_le 2 (e + 2) (fun _ => pk_eq n 16 (fun z => absurd z g6) (fun _ => h') E2) (fun z => by omega) rfl E4))
        by_cases z1 : on e = 0
        · by_cases z2 : on (e + 1) = 0
          · refine key 0 rl_b0 ⟨fun z => ?_, fun _ => rfl⟩ (fun post xh xr xl vs ss ts re h' => head post xh xr xl vs ss ts re ⟨pk_in e 16 (by omega) i2, br_t (by rw [i2, j2]; exact z1) ⟨pk_in (e + 1) 16 (by omega) i1, br_t (by rw [i1, j1]; exact z2) h'⟩⟩)
            rw [z1, z2] at z
            exact absurd z (by decide)
          · exact key 1 rl_b1 ⟨fun _ => rfl, fun z => absurd z.2 z2⟩ (fun post xh xr xl vs ss ts re h' => head post xh xr xl vs ss ts re ⟨pk_in e 16 (by omega) i2, br_t (by rw [i2, j2]; exact z1) ⟨pk_in (e + 1) 16 (by omega) i1, br_f (by rw [i1, j1]; exact z2) h'⟩⟩)
        · exact key 1 rl_b1 ⟨fun _ => rfl, fun z => absurd z.1 z1⟩ (fun post xh xr xl vs ss ts re h' => head post xh xr xl vs ss ts re ⟨pk_in e 16 (by omega) i2, br_f (by rw [i2, j2]; exact z1) h'⟩)
    · exact px_same I' 2 (fun post xh xr xl vs ss ts re h' => br_f h (br_t h6 (pk_le 2 d (fun z => by omega) (fun _ => h') rfl E4)))
  · exact px_same I' 1 (fun post xh xr xl vs ss ts re h' => br_f h (br_f h6 h'))
theorem px_concatMap (I : px_I xn xd ki op ar lo so sz cc on) : px_R xn xd ki op ar lo so sz cc on (fun post u => wpX_concatMap post u) := by
  have I' := I
  obtain ⟨n, d, K, st, sc, R, A, B, P, E2, E4, E5, E7, E8⟩ := I
  have hn := P.1
  have hd := sf_d_le P
  by_cases g : 2 ≤ d
  · by_cases g6 : n = 16
    · exact px_same I' 3 (fun post xh xr xl vs ss ts re h' => pk_le 2 d (fun _ => pk_eq n 16 (fun _ => h') (fun z => absurd g6 z) E2) (fun z => by omega) rfl E4)
    · obtain ⟨e, rfl⟩ : ∃ e, d = e + 2 := ⟨d - 2, by omega⟩
      obtain ⟨t1, t2, t3, t4, t5, t6, t7⟩ := sf_sec P
      have i1 : xd - 1 = nI (e + 1) := by rw [E4]; exact nI_pred (e + 1)
      have i2 : xd - 2 = nI e := by rw [E4]; exact sn_sub (a := e + 2) (b := 2) rfl
      have j1 : (nI (e + 1)).toNatClampNeg = e + 1 := nI_clamp (by omega)
      have j2 : (nI e).toNatClampNeg = e := nI_clamp (by omega)
      have s1 := E8 e (by omega)
      have s2 := E8 (e + 1) (by omega)
      have en : R (e + 1 + 1) = n := P.2.2.2.2.2.1
      have hz : sz (e + 1) = nI (n - R (e + 1)) := by rw [s2.1, en]
      have hcn : cc (xd - 2).toNatClampNeg + cc (xd - 1).toNatClampNeg = nI (sf_cn K (R e) n) := by
        rw [i1, i2, j1, j2, s1.2.1, s2.2.1, en, nI_add, sf_cn_add (K := K) (a := R e) (m := R (e + 1)) (by omega) n (by omega)]
      have hcl := sf_cn_le K (R e) n
      by_cases l : sf_cn K (R e) n < 2
      · refine ⟨0, nI (n + 1), nI (e + 1), upd ki (n + 1) (nI 8), upd op (n + 1) 0, upd ar (n + 1) 0, upd lo (n + 1) (nI (R (e + 1))), upd (sf_sb so (R (e + 1) + 1) (n + 1) (nI (R (e + 1)))) (n + 1) 0, upd sz e (sz e + (sz (e + 1) + 1)), upd cc e (cc e + cc (e + 1) + 1), on, ?_, fun post xh xr xl vs ss ts re h' => pk_le 2 (e + 2) (fun _ => pk_eq n 16 (fun z => absurd z g6) (fun _ => ⟨pk_in e 16 (by omega) i2, pk_in (e + 1) 16 (by omega) i1, pk_lt (sf_cn K (R e) n) 2 (fun _ => ?_) (fun z => by omega) hcn rfl⟩) E2) (fun z => by omega) rfl E4⟩
        · refine ⟨n + 1, e + 1, sf_u K n 8, sf_u st n (R e), sf_u (sf_bind sc (R (e + 1)) n) n 0, sf_u R (e + 1) (n + 1), upd A n 0, upd B n 0, sf_PF8 P (by omega) (by omega), rfl, rfl, fun p hp => ?_, px_src_add (b := 0) E7 (fun g => by omega) (fun g => by omega), sf_SK8 P E8⟩
          by_cases ep : p = n
          · subst ep
            exact sf_XN_new (fun g => by omega) (fun g => by omega) (fun g => by omega) (fun _ => rfl) (fun _ => ⟨by omega, by rw [pk_us, t3]⟩)
          · have h1 := P.2.2.1.1 p (by omega)
            have h2 := sf_st_le P.2.1 p (by omega)
            exact sf_XN_old (by omega) (sf_XN_lo (by omega) (E5 p (by omega))) (sf_bindX (by omega) (by omega) (by omega) (E5 p (by omega)).2.1)
        · exact xb_bind (d := e + 1) (s := R (e + 1)) E2 E4 hn (by omega) (by omega) hz (xb_join (s := R (e + 1)) E2 E4 (by omega) hd (by omega) hz ⟨pk_in e 16 (by omega) (nI_pred e), pk_in e 16 (by omega) (nI_pred e), nm_r (e' := upd cc e (cc e + cc (e + 1) + 1)) (by rw [nI_pred, j2, pk_us, sn_upd_upd]) h'⟩)
      · exact px_same I' 4 (fun post xh xr xl vs ss ts re h' => pk_le 2 (e + 2) (fun _ => pk_eq n 16 (fun z => absurd z g6) (fun _ => ⟨pk_in e 16 (by omega) i2, pk_in (e + 1) 16 (by omega) i1, pk_lt (sf_cn K (R e) n) 2 (fun z => by omega) (fun _ => h') hcn rfl⟩) E2) (fun z => by omega) rfl E4)
  · exact px_same I' 2 (fun post xh xr xl vs ss ts re h' => pk_le 2 d (fun z => by omega) (fun _ => h') rfl E4)
theorem px_0 (ki op ar lo so sz cc on : Nat → Int32) : px_I 0 0 ki op ar lo so sz cc on :=
  ⟨0, 0, fun _ => 0, fun _ => 0, fun _ => 0, fun _ => 0, fun _ => 0, fun _ => 0, ⟨by omega, fun p hp => absurd hp (Nat.not_lt_zero p), ⟨fun p hp => absurd hp (Nat.not_lt_zero p), fun c hc => absurd hc (Nat.not_lt_zero _)⟩, fun p hp => absurd hp (Nat.not_lt_zero p), rfl, rfl, fun i hi => absurd hi (Nat.not_lt_zero i)⟩, rfl, rfl, fun p hp => absurd hp (Nat.not_lt_zero p), fun p hp => absurd hp (Nat.not_lt_zero p), fun i hi => absurd hi (Nat.not_lt_zero i)⟩
theorem px_frag (I : px_I xn xd ki op ar lo so sz cc on) (x : Int32) : ∃ r : Int32, ∀ (post : Int32 → Prop) (xh xr xl : Int32) (vs ss ts re : Nat → Int32), post r → wpX_fragment post (xh, xn, xd, xr, xl, ki, op, ar, lo, so, sz, cc, on, vs, ss, ts, re) x := by
  obtain ⟨n, d, K, st, sc, R, A, B, P, E2, E4, E5, E7, E8⟩ := I
  have hn := P.1
  have hd := sf_d_le P
  by_cases h : x < 0
  · exact ⟨-1, fun post xh xr xl vs ss ts re h' => br_t h h'⟩
  by_cases g : x < xd
  · have hin : vp_in x 16 := by
      obtain ⟨j, hj, rfl⟩ := nI_of h
      rw [E4, nI_ltI hj (by omega)] at g
      exact vp_in_nI (by omega) (by decide)
    by_cases z : on x.toNatClampNeg = 0
    · exact ⟨16 * sz x.toNatClampNeg + 2 * cc x.toNatClampNeg + 0, fun post xh xr xl vs ss ts re h' => br_f h (br_t g ⟨hin, hin, hin, br_t z h'⟩)⟩
    · exact ⟨16 * sz x.toNatClampNeg + 2 * cc x.toNatClampNeg + 1, fun post xh xr xl vs ss ts re h' => br_f h (br_t g ⟨hin, hin, hin, br_f z h'⟩)⟩
  · exact ⟨-1, fun post xh xr xl vs ss ts re h' => br_f h (br_f g h')⟩
end PX

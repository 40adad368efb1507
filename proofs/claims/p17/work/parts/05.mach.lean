/-! the reference's machine over an interface of its steps -/
def sf_Env (n : Nat) (K st sc : Nat → Nat) (p : Nat) (x : Int32) (sl cj : Nat → Int32) : Prop :=
  (sc p = 0 → x = 0) ∧ ∀ d, d + 1 < n → K (d + 1) = 8 → st d = sc p → ∃ j, j < 216 ∧ cj (d + 1) = nI j ∧ sl ((sc p - 1) * 216 + j) = x
def sf_Fr (lo hi : Nat) (ln sl cj ac ln' sl' cj' ac' : Nat → Int32) : Prop :=
  ∀ q, (q < lo ∨ hi < q) → ln' q = ln q ∧ cj' q = cj q ∧ ac' q = ac q ∧ ∀ i, i < 216 → sl' (q * 216 + i) = sl (q * 216 + i)
theorem sf_Fr_tr {lo hi a b c d : Nat} {l0 s0 c0 a0 l1 s1 c1 a1 l2 s2 c2 a2 : Nat → Int32} (h : sf_Fr a b l0 s0 c0 a0 l1 s1 c1 a1) (h' : sf_Fr c d l1 s1 c1 a1 l2 s2 c2 a2) (h1 : lo ≤ a) (h2 : b ≤ hi) (h3 : lo ≤ c) (h4 : d ≤ hi) : sf_Fr lo hi l0 s0 c0 a0 l2 s2 c2 a2 := by
  intro q hq
  obtain ⟨e1, e2, e3, e4⟩ := h q (by omega)
  obtain ⟨f1, f2, f3, f4⟩ := h' q (by omega)
  exact ⟨f1.trans e1, f2.trans e2, f3.trans e3, fun i hi => (f4 i hi).trans (e4 i hi)⟩
theorem sf_Fr_hd {lo hi q : Nat} {l0 s0 c0 a0 l1 s1 c1 a1 : Nat → Int32} {l : List Int32} (h : sf_Fr lo hi l0 s0 c0 a0 l1 s1 c1 a1) (hq : q < lo ∨ hi < q) (hl : l.length ≤ 216) (hd : sf_Hd s0 (q * 216) l) : sf_Hd s1 (q * 216) l :=
  sf_Hd_eq hd (fun i hi => (h q hq).2.2.2 i (by omega))
section MACH
variable {n : Nat} {K st sc : Nat → Nat} {A B : Nat → Int32} {L : Nat → Int32 → List Int32} {C : Nat → Int32 → Nat}
variable {W W2 : Nat → Nat → Nat → (Nat → Int32) → (Nat → Int32) → (Nat → Int32) → (Nat → Int32) → Int32 → Prop}
/-- the machine's steps -/
def sf_MI (n : Nat) (K st sc : Nat → Nat) (L : Nat → Int32 → List Int32) (W W2 : Nat → Nat → Nat → (Nat → Int32) → (Nat → Int32) → (Nat → Int32) → (Nat → Int32) → Int32 → Prop) : Prop :=
  (∀ p, p < n → ∀ f step ln sl cj ac co, step < 100000 → (∀ d, d + 1 < n → K (d + 1) = 8 → st d = p → ac (d + 1) = 1) → W2 f step p ln sl cj ac co → W (f + 1) step p ln sl cj ac co) ∧
  (∀ c a, c + 1 < n → K (c + 1) = 8 → st c = a + 1 → ∀ f step ln sl cj ac co, step < 100000 → ac (c + 1) = 0 → ln a = 0 → W f (step + 1) (c + 2) (upd ln (c + 1) 0) sl cj ac co → W (f + 1) step (a + 1) ln sl cj ac co) ∧
  (∀ c a m, c + 1 < n → K (c + 1) = 8 → st c = a + 1 → ∀ f step ln sl cj ac co, step < 100000 → ac (c + 1) = 0 → 0 < m → m ≤ 216 → ln a = nI m → W2 f step (a + 1) (upd ln (c + 1) 0) sl (upd cj (c + 1) 0) (upd ac (c + 1) 1) co → W (f + 1) step (a + 1) ln sl cj ac co) ∧
  (∀ p, p < n → K p ≠ 8 → ∀ x f step ln sl cj ac co, step < 100000 → (2 ≤ K p → ln (p - 1) = nI (L (p - 1) x).length ∧ sf_Hd sl ((p - 1) * 216) (L (p - 1) x)) →
    (K p = 7 → ln (st (p - 1) - 1) = nI (L (st (p - 1) - 1) x).length ∧ sf_Hd sl ((st (p - 1) - 1) * 216) (L (st (p - 1) - 1) x)) →
    sf_Env n K st sc p x sl cj → W f (step + 1) (p + 1) (upd ln p (nI (L p x).length)) (sf_ap sl (p * 216) (L p x)) cj ac (co + nI (L p x).length) → W2 f step p ln sl cj ac co) ∧
  (∀ c a, c + 1 < n → K (c + 1) = 8 → st c = a + 1 → ∀ (l D : List Int32) j m f step ln sl cj ac co, step < 100000 → ln c = nI l.length → sf_Hd sl (c * 216) l → ln (c + 1) = nI D.length → D.length + l.length ≤ 216 →
    cj (c + 1) = nI j → ln a = nI m → m ≤ 216 → j + 1 < m →
    W f (step + 1) (a + 1) (upd ln (c + 1) (nI (D.length + l.length))) (sf_ap sl ((c + 1) * 216 + D.length) l) (upd cj (c + 1) (nI (j + 1))) ac co → W2 f step (c + 1) ln sl cj ac co) ∧
  (∀ c a, c + 1 < n → K (c + 1) = 8 → st c = a + 1 → ∀ (l D : List Int32) j m f step ln sl cj ac co, step < 100000 → ln c = nI l.length → sf_Hd sl (c * 216) l → ln (c + 1) = nI D.length → D.length + l.length ≤ 216 →
    cj (c + 1) = nI j → ln a = nI m → m ≤ 216 → j + 1 = m →
    W f (step + 1) (c + 2) (upd ln (c + 1) (nI (D.length + l.length))) (sf_ap sl ((c + 1) * 216 + D.length) l) (upd cj (c + 1) (nI (j + 1))) (upd ac (c + 1) 0) (co + nI (D.length + l.length)) → W2 f step (c + 1) ln sl cj ac co)
def sf_Cl (n : Nat) (K st sc : Nat → Nat) (L : Nat → Int32 → List Int32) (C : Nat → Int32 → Nat) (W W2 : Nat → Nat → Nat → (Nat → Int32) → (Nat → Int32) → (Nat → Int32) → (Nat → Int32) → Int32 → Prop) (p : Nat) : Prop :=
  ∀ x ln sl cj ac co, (∀ q, st p ≤ q → q ≤ p → ac q = 0) → sf_Env n K st sc p x sl cj → ∃ ln' sl' cj' ac' k,
    ln' p = nI (L p x).length ∧ sf_Hd sl' (p * 216) (L p x) ∧ (∀ q, st p ≤ q → q ≤ p → ac' q = 0) ∧ sf_Fr (st p) p ln sl cj ac ln' sl' cj' ac' ∧ k + 1 ≤ (p + 1 - st p) * 6 ^ sf_g K st p ∧
    ∀ f step, step + k < 100000 → W f (step + k + 1) (p + 1) ln' sl' cj' ac' (co + nI (C p x)) → W2 (f + k) step (st p) ln sl cj ac co
theorem sf_env_u {p q : Nat} {x : Int32} {sl cj : Nat → Int32} (e : sc q = sc p) (h : sf_Env n K st sc p x sl cj) : sf_Env n K st sc q x sl cj := by
  unfold sf_Env at h ⊢
  rw [e]
  exact h
theorem sf_env_fr (w : sf_WF n K st) (hs : sf_scp n K st sc) {p lo hi : Nat} {x : Int32} {l0 s0 c0 a0 l1 s1 c1 a1 : Nat → Int32} (hp : p < n) (h : sf_Env n K st sc p x s0 c0) (f : sf_Fr lo hi l0 s0 c0 a0 l1 s1 c1 a1) (h1 : st p ≤ lo) (h2 : hi ≤ p) : sf_Env n K st sc p x s1 c1 := by
  refine ⟨h.1, fun d hd kd e => ?_⟩
  obtain ⟨j, hj, ej, es⟩ := h.2 d hd kd e
  have l := hs.1 p hp
  have o := sf_out w hp hd kd (by omega)
  have hpos : 1 ≤ st d := by
    rcases w (d + 1) hd with ⟨k, _⟩ | ⟨_, k, _⟩ | ⟨_, _, _, h2, _⟩
    · omega
    · omega
    · rw [Nat.add_sub_cancel] at h2; exact h2
  refine ⟨j, hj, (f (d + 1) (by omega)).2.1.trans ej, ((f (sc p - 1) (by omega)).2.2.2 j hj).trans es⟩
/-- one node behind its children -/
theorem sf_node (m : sf_MI n K st sc L W W2) {p : Nat} (hp : p < n) (k : K p ≠ 8) (x : Int32) {ln sl cj ac : Nat → Int32} {co : Int32} {f step : Nat} (h1 : step < 100000)
    (hc : 2 ≤ K p → ln (p - 1) = nI (L (p - 1) x).length ∧ sf_Hd sl ((p - 1) * 216) (L (p - 1) x))
    (hz : K p = 7 → ln (st (p - 1) - 1) = nI (L (st (p - 1) - 1) x).length ∧ sf_Hd sl ((st (p - 1) - 1) * 216) (L (st (p - 1) - 1) x))
    (he : sf_Env n K st sc p x sl cj) (h : W f (step + 1) (p + 1) (upd ln p (nI (L p x).length)) (sf_ap sl (p * 216) (L p x)) cj ac (co + nI (L p x).length)) : W2 f step p ln sl cj ac co :=
  m.2.2.2.1 p hp k x f step ln sl cj ac co h1 hc hz he h
theorem sf_fr_node {p : Nat} {l : List Int32} {v : Int32} {ln sl cj ac : Nat → Int32} (hl : l.length ≤ 216) : sf_Fr p p ln sl cj ac (upd ln p v) (sf_ap sl (p * 216) l) cj ac := by
  intro q hq
  exact ⟨pk_un (by omega), rfl, rfl, fun i hi => sf_ap_out (by omega)⟩
theorem sf_216 {g : Nat} (h : g ≤ 3) : 6 ^ g ≤ 216 := Nat.le_trans (sf_p6 h) (by decide)
theorem sf_cladd (co : Int32) (a b : Nat) : co + nI a + nI b = co + nI (b + a) := by
  rw [Int32.add_assoc, nI_add, Nat.add_comm]
theorem sf_mach_s (w : sf_WF n K st) (s : sf_Sp n K A B st L) (hl : sf_lim n K st) (hb : sf_src n K B) (hC : sf_Co n K st L C) (m : sf_MI n K st sc L W W2) (p : Nat) (hp : p < n) (k : K p ≤ 1) (e : st p = p) : sf_Cl n K st sc L C W W2 p := by
  intro x ln sl cj ac co ha he
  have hlen : (L p x).length ≤ 216 := Nat.le_trans (sf_Llen w s hl hb p hp x) (sf_216 (sf_g3 K st p))
  refine ⟨upd ln p (nI (L p x).length), sf_ap sl (p * 216) (L p x), cj, ac, 0, pk_us, sf_ap_hd _ _ _, ha, ?_, ?_, ?_⟩
  · rw [e]; exact sf_fr_node hlen
  · rw [e, show p + 1 - p = 1 from by omega, Nat.one_mul]
    exact Nat.pow_pos (by omega)
  · intro f step h hW
    rw [sf_C1 hC hp k] at hW
    rw [e]
    exact sf_node m hp (by omega) x (by omega) (fun k' => by omega) (fun k' => by omega) he hW
theorem sf_mach_u (w : sf_WF n K st) (s : sf_Sp n K A B st L) (hl : sf_lim n K st) (hb : sf_src n K B) (hs : sf_scp n K st sc) (hC : sf_Co n K st L C) (m : sf_MI n K st sc L W W2) (c : Nat) (hc : c + 1 < n) (k : 2 ≤ K (c + 1)) (k' : K (c + 1) ≤ 6) (e : st (c + 1) = st c) (ih : sf_Cl n K st sc L C W W2 c) : sf_Cl n K st sc L C W W2 (c + 1) := by
  intro x ln sl cj ac co ha he
  have hsc := (hs.2 c hc).1 k k'
  have lc := sf_st_le w c (by omega)
  have hlen : (L (c + 1) x).length ≤ 216 := Nat.le_trans (sf_Llen w s hl hb _ hc x) (sf_216 (sf_g3 K st _))
  have hg := sf_g_u (K := K) e (by omega)
  obtain ⟨ln1, sl1, cj1, ac1, k1, q1, q2, q3, q4, q5, q6⟩ := ih x ln sl cj ac co (fun q h1 h2 => ha q (by omega) (by omega)) (sf_env_u hsc he)
  refine ⟨upd ln1 (c + 1) (nI (L (c + 1) x).length), sf_ap sl1 ((c + 1) * 216) (L (c + 1) x), cj1, ac1, k1 + 1, pk_us, sf_ap_hd _ _ _, ?_, ?_, ?_, ?_⟩
  · intro q h1 h2
    by_cases eq : q = c + 1
    · rw [eq, (q4 (c + 1) (by omega)).2.2.1]; exact ha _ (by omega) (by omega)
    · exact q3 q (by omega) (by omega)
  · exact sf_Fr_tr q4 (sf_fr_node hlen) (by omega) (by omega) (by omega) (by omega)
  · rw [e, hg, show c + 1 + 1 - st c = (c + 1 - st c) + 1 from by omega, Nat.succ_mul]
    have : 0 < 6 ^ sf_g K st c := Nat.pow_pos (by omega)
    omega
  · intro f step h hW
    rw [sf_C2 hC hc k k', ← sf_cladd] at hW
    rw [e, show f + (k1 + 1) = f + 1 + k1 from by omega]
    refine q6 (f + 1) step (by omega) (m.1 (c + 1) hc f _ _ _ _ _ _ (by omega) (fun d hd kd ed => (sf_no2 w hc k (by omega : d < n) ed).elim) ?_)
    refine sf_node m hc (by omega) x (by omega) (fun _ => ?_) (fun _ => by omega) (sf_env_fr w hs hc he q4 (by omega) (by omega)) hW
    rw [Nat.add_sub_cancel]
    exact ⟨q1, q2⟩
theorem sf_mach_z (w : sf_WF n K st) (s : sf_Sp n K A B st L) (hl : sf_lim n K st) (hb : sf_src n K B) (hs : sf_scp n K st sc) (hC : sf_Co n K st L C) (m : sf_MI n K st sc L W W2) (c a : Nat) (hc : c + 1 < n) (k : K (c + 1) = 7) (ea : st c = a + 1) (hac : a + 1 ≤ c) (e : st (c + 1) = st a) (iha : sf_Cl n K st sc L C W W2 a) (ih : sf_Cl n K st sc L C W W2 c) : sf_Cl n K st sc L C W W2 (c + 1) := by
  intro x ln sl cj ac co ha he
  have hsc := (hs.2 c hc).2.1 a ea k
  have la := sf_st_le w a (by omega)
  have hlen : (L (c + 1) x).length ≤ 216 := Nat.le_trans (sf_Llen w s hl hb _ hc x) (sf_216 (sf_g3 K st _))
  have hlena : (L a x).length ≤ 216 := Nat.le_trans (sf_Llen w s hl hb _ (by omega) x) (sf_216 (sf_g3 K st _))
  have hg := sf_g_z (K := K) ea hac e la
  obtain ⟨ln1, sl1, cj1, ac1, k1, q1, q2, q3, q4, q5, q6⟩ := iha x ln sl cj ac co (fun q h1 h2 => ha q (by omega) (by omega)) (sf_env_u hsc.2 he)
  have he1 : sf_Env n K st sc (c + 1) x sl1 cj1 := sf_env_fr w hs hc he q4 (by omega) (by omega)
  obtain ⟨ln2, sl2, cj2, ac2, k2, r1, r2, r3, r4, r5, r6⟩ := ih x ln1 sl1 cj1 ac1 (co + nI (C a x)) (fun q h1 h2 => by
    rw [(q4 q (by omega)).2.2.1]; exact ha q (by omega) (by omega)) (sf_env_u hsc.1 he1)
  have hfr : sf_Fr (st a) c ln sl cj ac ln2 sl2 cj2 ac2 := sf_Fr_tr q4 r4 (by omega) (by omega) (by omega) (by omega)
  refine ⟨upd ln2 (c + 1) (nI (L (c + 1) x).length), sf_ap sl2 ((c + 1) * 216) (L (c + 1) x), cj2, ac2, k1 + k2 + 2, pk_us, sf_ap_hd _ _ _, ?_, ?_, ?_, ?_⟩
  · intro q h1 h2
    by_cases eq : q = c + 1
    · rw [eq, (hfr (c + 1) (by omega)).2.2.1]; exact ha _ (by omega) (by omega)
    · by_cases eq2 : q ≤ a
      · rw [(r4 q (by omega)).2.2.1]; exact q3 q (by omega) eq2
      · exact r3 q (by omega) (by omega)
  · rw [e]; exact sf_Fr_tr hfr (sf_fr_node hlen) (by omega) (by omega) (by omega) (by omega)
  · rw [e, show c + 1 + 1 - st a = (a + 1 - st a) + (c + 1 - st c) + 1 from by omega, Nat.add_mul, Nat.add_mul]
    have t1 := Nat.mul_le_mul_left (a + 1 - st a) (sf_p6 hg.1)
    have t2 := Nat.mul_le_mul_left (c + 1 - st c) (sf_p6 hg.2)
    have : 0 < 6 ^ sf_g K st (c + 1) := Nat.pow_pos (by omega)
    omega
  · intro f step h hW
    rw [sf_C7 hC hc k ea, ← sf_cladd, Nat.add_comm (C a x), ← sf_cladd] at hW
    rw [e, show f + (k1 + k2 + 2) = (f + 1 + k2) + 1 + k1 from by omega]
    refine q6 _ step (by omega) (m.1 (a + 1) (by omega) _ _ _ _ _ _ _ (by omega) (fun d hd kd ed => (sf_noz w hc k ea hd kd (ed.trans ea.symm)).elim) ?_)
    rw [← ea]
    refine r6 (f + 1) _ (by omega) (m.1 (c + 1) hc f _ _ _ _ _ _ (by omega) (fun d hd kd ed => (sf_no2 w hc (by omega) (by omega : d < n) ed).elim) ?_)
    refine sf_node m hc (by omega) x (by omega) (fun _ => ?_) (fun _ => ?_) (sf_env_fr w hs hc he hfr (by omega) (by omega)) ?_
    · rw [Nat.add_sub_cancel]
      exact ⟨r1, r2⟩
    · rw [Nat.add_sub_cancel, ea, Nat.add_sub_cancel]
      exact ⟨((r4 a (by omega)).1).trans q1, sf_Fr_hd r4 (by omega) hlena q2⟩
    · rw [show step + k1 + 1 + k2 + 1 + 1 = step + (k1 + k2 + 2) + 1 from by omega]
      exact hW
theorem sf_mach_l (w : sf_WF n K st) (s : sf_Sp n K A B st L) (hl : sf_lim n K st) (hb : sf_src n K B) (hs : sf_scp n K st sc) (m : sf_MI n K st sc L W W2) (c a : Nat) (hc : c + 1 < n) (k : K (c + 1) = 8) (ea : st c = a + 1) (hac : a + 1 ≤ c) (ih : sf_Cl n K st sc L C W W2 c) (x : Int32) :
    ∀ (rest : List Int32) (y : Int32) (pre : List Int32), L a x = pre ++ y :: rest → ∀ ln sl cj ac co, ln (c + 1) = nI (pre.flatMap (L c)).length → sf_Hd sl ((c + 1) * 216) (pre.flatMap (L c)) → cj (c + 1) = nI pre.length → ac (c + 1) = 1 → (∀ q, st c ≤ q → q ≤ c → ac q = 0) →
      ln a = nI (L a x).length → sf_Hd sl (a * 216) (L a x) → ∃ ln' sl' cj' ac' k, ln' (c + 1) = nI (L (c + 1) x).length ∧ sf_Hd sl' ((c + 1) * 216) (L (c + 1) x) ∧ (∀ q, st c ≤ q → q ≤ c + 1 → ac' q = 0) ∧ sf_Fr (st c) (c + 1) ln sl cj ac ln' sl' cj' ac' ∧
      k + 1 ≤ (rest.length + 1) * ((c + 1 - st c) * 6 ^ sf_g K st c + 1) ∧
      ∀ f step, step + k < 100000 → W f (step + k + 1) (c + 2) ln' sl' cj' ac' (co + nI (sf_sm (C c) (y :: rest) + (L (c + 1) x).length)) → W2 (f + k) step (a + 1) ln sl cj ac co := by
  have hlen : (L (c + 1) x).length ≤ 216 := Nat.le_trans (sf_Llen w s hl hb _ hc x) (sf_216 (sf_g3 K st _))
  have hlena : (L a x).length ≤ 216 := Nat.le_trans (sf_Llen w s hl hb _ (by omega) x) (sf_216 (sf_g3 K st _))
  have hL := sf_L8 s hc k ea x
  have hsc := ((hs.2 c hc).2.2 a ea k).1
  intro rest
  induction rest with
  | nil =>
    intro y pre epre ln sl cj ac co h1 h2 h3 h4 h5 h6 h7
    have hf : L (c + 1) x = pre.flatMap (L c) ++ L c y := by
      rw [hL, epre, List.flatMap_append, List.flatMap_cons, List.flatMap_nil, List.append_nil]
    have hm : (L a x).length = pre.length + 1 := by rw [epre, List.length_append]; rfl
    have hsum : (pre.flatMap (L c)).length + (L c y).length = (L (c + 1) x).length := by rw [hf, List.length_append]
    have henv : sf_Env n K st sc c y sl cj := by
      refine ⟨fun z => by omega, fun d hd kd ed => ?_⟩
      have : d = c := sf_uniq w hd hc kd k (by omega)
      subst this
      refine ⟨pre.length, by omega, h3, ?_⟩
      rw [hsc, Nat.add_sub_cancel]
      exact h7 _ _ (by rw [epre, List.getElem?_append_right (Nat.le_refl _), Nat.sub_self]; rfl)
    obtain ⟨ln1, sl1, cj1, ac1, k1, q1, q2, q3, q4, q5, q6⟩ := ih y ln sl cj ac co h5 henv
    have f1 := q4 (c + 1) (by omega)
    have fa := q4 a (by omega)
    refine ⟨upd ln1 (c + 1) (nI ((pre.flatMap (L c)).length + (L c y).length)), sf_ap sl1 ((c + 1) * 216 + (pre.flatMap (L c)).length) (L c y), upd cj1 (c + 1) (nI (pre.length + 1)), upd ac1 (c + 1) 0, k1 + 1, ?_, ?_, ?_, ?_, ?_, ?_⟩
    · rw [pk_us, hsum]
    · rw [hf]
      refine sf_Hd_app (sf_Hd_eq h2 (fun i hi => ?_)) (sf_ap_hd _ _ _)
      rw [sf_ap_out (by omega)]
      exact f1.2.2.2 i (by omega)
    · intro q g1 g2
      by_cases eq : q = c + 1
      · rw [eq]; exact pk_us
      · rw [pk_un eq]; exact q3 q g1 (by omega)
    · refine sf_Fr_tr q4 (fun q hq => ?_) (Nat.le_refl _) (by omega) (Nat.le_refl _) (Nat.le_refl (c + 1))
      exact ⟨pk_un (by omega), pk_un (by omega), pk_un (by omega), fun i hi => sf_ap_out (by omega)⟩
    · rw [List.length_nil]; omega
    · intro f step h hW
      rw [show f + (k1 + 1) = f + 1 + k1 from by omega, ← ea]
      refine q6 (f + 1) step (by omega) (m.1 (c + 1) hc f _ _ _ _ _ _ (by omega) (fun d hd kd ed => (sf_no2 w hc (by omega) (by omega : d < n) ed).elim) ?_)
      refine m.2.2.2.2.2 c a hc k ea (L c y) (pre.flatMap (L c)) pre.length (L a x).length f _ _ _ _ _ _ (by omega) q1 q2 (f1.1.trans h1) (by omega) (f1.2.1.trans h3) (fa.1.trans h6) hlena hm.symm ?_
      rw [show sf_sm (C c) [y] = C c y from Nat.add_zero _, ← hsum] at hW
      rw [Int32.add_assoc, nI_add]
      exact hW
  | cons y2 rest ihr =>
    intro y pre epre ln sl cj ac co h1 h2 h3 h4 h5 h6 h7
    have epre' : L a x = (pre ++ [y]) ++ y2 :: rest := by rw [epre, List.append_assoc]; rfl
    have hm : (L a x).length = pre.length + 2 + rest.length := by
      rw [epre, List.length_append, List.length_cons, List.length_cons]; omega
    have hD : (pre ++ [y]).flatMap (L c) = pre.flatMap (L c) ++ L c y := by
      rw [List.flatMap_append, List.flatMap_cons, List.flatMap_nil, List.append_nil]
    have hf : L (c + 1) x = (pre ++ [y]).flatMap (L c) ++ (y2 :: rest).flatMap (L c) := by
      rw [hL, epre', List.flatMap_append]
    have hsum : (pre.flatMap (L c)).length + (L c y).length ≤ (L (c + 1) x).length := by
      rw [hf, hD, List.length_append, List.length_append]; omega
    have henv : sf_Env n K st sc c y sl cj := by
      refine ⟨fun z => by omega, fun d hd kd ed => ?_⟩
      have : d = c := sf_uniq w hd hc kd k (by omega)
      subst this
      refine ⟨pre.length, by omega, h3, ?_⟩
      rw [hsc, Nat.add_sub_cancel]
      exact h7 _ _ (by rw [epre, List.getElem?_append_right (Nat.le_refl _), Nat.sub_self]; rfl)
    obtain ⟨ln1, sl1, cj1, ac1, k1, q1, q2, q3, q4, q5, q6⟩ := ih y ln sl cj ac co h5 henv
    have f1 := q4 (c + 1) (by omega)
    have fa := q4 a (by omega)
    have hfr : sf_Fr (st c) (c + 1) ln sl cj ac (upd ln1 (c + 1) (nI ((pre.flatMap (L c)).length + (L c y).length))) (sf_ap sl1 ((c + 1) * 216 + (pre.flatMap (L c)).length) (L c y)) (upd cj1 (c + 1) (nI (pre.length + 1))) ac1 := by
      refine sf_Fr_tr q4 (fun q hq => ?_) (Nat.le_refl _) (by omega) (Nat.le_refl _) (Nat.le_refl (c + 1))
      exact ⟨pk_un (by omega), pk_un (by omega), rfl, fun i hi => sf_ap_out (by omega)⟩
    obtain ⟨ln2, sl2, cj2, ac2, k2, r1, r2, r3, r4, r5, r6⟩ := ihr y2 (pre ++ [y]) epre' (upd ln1 (c + 1) (nI ((pre.flatMap (L c)).length + (L c y).length))) (sf_ap sl1 ((c + 1) * 216 + (pre.flatMap (L c)).length) (L c y)) (upd cj1 (c + 1) (nI (pre.length + 1))) ac1 (co + nI (C c y))
      (by rw [pk_us, hD, List.length_append])
      (by
        rw [hD]
        refine sf_Hd_app (sf_Hd_eq h2 (fun i hi => ?_)) (sf_ap_hd _ _ _)
        rw [sf_ap_out (by omega)]
        exact f1.2.2.2 i (by omega))
      (by rw [pk_us, List.length_append]; rfl)
      (f1.2.2.1.trans h4) q3
      (by rw [pk_un (by omega)]; exact fa.1.trans h6)
      (sf_Fr_hd hfr (by omega) hlena h7)
    refine ⟨ln2, sl2, cj2, ac2, k1 + k2 + 2, r1, r2, r3, sf_Fr_tr hfr r4 (Nat.le_refl _) (Nat.le_refl _) (Nat.le_refl _) (Nat.le_refl _), ?_, ?_⟩
    · rw [List.length_cons, Nat.succ_mul (rest.length + 1)]
      omega
    · intro f step h hW
      rw [show f + (k1 + k2 + 2) = (f + k2 + 1) + 1 + k1 from by omega, ← ea]
      refine q6 _ step (by omega) (m.1 (c + 1) hc _ _ _ _ _ _ _ (by omega) (fun d hd kd ed => (sf_no2 w hc (by omega) (by omega : d < n) ed).elim) ?_)
      refine m.2.2.2.2.1 c a hc k ea (L c y) (pre.flatMap (L c)) pre.length (L a x).length _ _ _ _ _ _ _ (by omega) q1 q2 (f1.1.trans h1) (by omega) (f1.2.1.trans h3) (fa.1.trans h6) hlena (by omega) ?_
      refine m.1 (a + 1) (by omega) _ _ _ _ _ _ _ (by omega) (fun d hd kd ed => ?_) ?_
      · have : d = c := sf_uniq w hd hc kd k (by omega)
        subst this
        exact f1.2.2.1.trans h4
      · refine r6 f _ (by omega) ?_
        rw [show step + k1 + 1 + 1 + k2 + 1 = step + (k1 + k2 + 2) + 1 from by omega, Int32.add_assoc, nI_add, show C c y + (sf_sm (C c) (y2 :: rest) + (L (c + 1) x).length) = sf_sm (C c) (y :: y2 :: rest) + (L (c + 1) x).length from (Nat.add_assoc _ _ _).symm]
        exact hW
theorem sf_mach_c (w : sf_WF n K st) (s : sf_Sp n K A B st L) (hl : sf_lim n K st) (hb : sf_src n K B) (hs : sf_scp n K st sc) (hC : sf_Co n K st L C) (m : sf_MI n K st sc L W W2) (c a : Nat) (hc : c + 1 < n) (k : K (c + 1) = 8) (ea : st c = a + 1) (hac : a + 1 ≤ c) (e : st (c + 1) = st a) (iha : sf_Cl n K st sc L C W W2 a) (ih : sf_Cl n K st sc L C W W2 c) : sf_Cl n K st sc L C W W2 (c + 1) := by
  intro x ln sl cj ac co ha he
  have hsc := (hs.2 c hc).2.2 a ea k
  have la := sf_st_le w a (by omega)
  have hlena : (L a x).length ≤ 216 := Nat.le_trans (sf_Llen w s hl hb _ (by omega) x) (sf_216 (sf_g3 K st _))
  have hla := sf_Llen w s hl hb a (by omega) x
  have hg := sf_g_c k ea hac e la (hl _ hc k)
  obtain ⟨ln1, sl1, cj1, ac1, k1, q1, q2, q3, q4, q5, q6⟩ := iha x ln sl cj ac co (fun q h1 h2 => ha q (by omega) (by omega)) (sf_env_u hsc.2 he)
  have hac1 : ac1 (c + 1) = 0 := by rw [(q4 (c + 1) (by omega)).2.2.1]; exact ha _ (by omega) (by omega)
  have p6 : 0 < 6 ^ sf_g K st a := Nat.pow_pos (by omega)
  have p6c : 0 < 6 ^ sf_g K st c := Nat.pow_pos (by omega)
  have ple : 6 ^ sf_g K st a ≤ 6 ^ sf_g K st a * 6 ^ sf_g K st c := Nat.le_mul_of_pos_right _ p6c
  have t1 := Nat.mul_le_mul_left (a + 1 - st a) ple
  cases eL : L a x with
  | nil =>
    have hL : L (c + 1) x = [] := by rw [sf_L8 s hc k ea x, eL]; rfl
    have hz : ln1 a = 0 := by rw [q1, eL]; rfl
    refine ⟨upd ln1 (c + 1) 0, sl1, cj1, ac1, k1 + 1, ?_, ?_, ?_, ?_, ?_, ?_⟩
    · rw [pk_us, hL]; rfl
    · rw [hL]; exact sf_Hd_nil _ _
    · intro q h1 h2
      by_cases eq : q ≤ a
      · exact q3 q (by omega) eq
      · rw [(q4 q (by omega)).2.2.1]; exact ha q (by omega) (by omega)
    · rw [e]
      exact sf_Fr_tr (hi := c + 1) q4 (fun q (hq : q < c + 1 ∨ c + 1 < q) => ⟨pk_un (by omega), rfl, rfl, fun _ _ => rfl⟩) (Nat.le_refl _) (by omega) (by omega) (Nat.le_refl _)
    · rw [e, hg, Nat.pow_add, show c + 1 + 1 - st a = (a + 1 - st a) + (c + 1 - st c) + 1 from by omega, Nat.add_mul, Nat.add_mul]
      omega
    · intro f step h hW
      rw [sf_C8 hC hc k ea, hL, eL] at hW
      rw [e, show f + (k1 + 1) = f + 1 + k1 from by omega]
      refine q6 _ step (by omega) (m.2.1 c a hc k ea f _ _ _ _ _ _ (by omega) hac1 hz ?_)
      have ez : ([] : List Int32).length + (C a x + sf_sm (C c) []) = C a x := by
        show 0 + (C a x + 0) = _
        omega
      rw [ez] at hW
      exact hW
  | cons y rest =>
    have hmm : (L a x).length = rest.length + 1 := by rw [eL]; rfl
    have fr0 : sf_Fr (c + 1) (c + 1) ln1 sl1 cj1 ac1 (upd ln1 (c + 1) 0) sl1 (upd cj1 (c + 1) 0) (upd ac1 (c + 1) 1) :=
      fun q hq => ⟨pk_un (by omega), pk_un (by omega), pk_un (by omega), fun _ _ => rfl⟩
    obtain ⟨ln2, sl2, cj2, ac2, k2, r1, r2, r3, r4, r5, r6⟩ := sf_mach_l w s hl hb hs m c a hc k ea hac ih x rest y [] eL (upd ln1 (c + 1) 0) sl1 (upd cj1 (c + 1) 0) (upd ac1 (c + 1) 1) (co + nI (C a x))
      pk_us (sf_Hd_nil _ _) pk_us pk_us
      (fun q h1 h2 => by rw [pk_un (by omega), (q4 q (by omega)).2.2.1]; exact ha q (by omega) (by omega))
      (by rw [pk_un (by omega)]; exact q1) q2
    have hfr : sf_Fr (st a) (c + 1) ln sl cj ac ln2 sl2 cj2 ac2 :=
      sf_Fr_tr (sf_Fr_tr (lo := st a) (hi := c + 1) q4 fr0 (Nat.le_refl _) (by omega) (by omega) (by omega)) r4 (Nat.le_refl _) (Nat.le_refl _) (by omega) (Nat.le_refl _)
    refine ⟨ln2, sl2, cj2, ac2, k1 + k2 + 1, r1, r2, ?_, ?_, ?_, ?_⟩
    · intro q h1 h2
      by_cases eq : q ≤ a
      · rw [(r4 q (by omega)).2.2.1, pk_un (by omega)]; exact q3 q (by omega) eq
      · exact r3 q (by omega) (by omega)
    · rw [e]; exact hfr
    · rw [e, hg, Nat.pow_add, show c + 1 + 1 - st a = (a + 1 - st a) + (c + 1 - st c) + 1 from by omega, Nat.add_mul, Nat.add_mul]
      rw [← hmm] at r5
      have t2 := Nat.mul_le_mul_right ((c + 1 - st c) * 6 ^ sf_g K st c + 1) hla
      have t2' : 6 ^ sf_g K st a * ((c + 1 - st c) * 6 ^ sf_g K st c + 1) = 6 ^ sf_g K st a * ((c + 1 - st c) * 6 ^ sf_g K st c) + 6 ^ sf_g K st a := by rw [Nat.mul_add, Nat.mul_one]
      have t3 : 6 ^ sf_g K st a * ((c + 1 - st c) * 6 ^ sf_g K st c) = (c + 1 - st c) * (6 ^ sf_g K st a * 6 ^ sf_g K st c) := by
        rw [← Nat.mul_assoc, Nat.mul_comm (6 ^ sf_g K st a), Nat.mul_assoc]
      omega
    · intro f step h hW
      rw [sf_C8 hC hc k ea, eL] at hW
      rw [e, show f + (k1 + k2 + 1) = (f + k2) + 1 + k1 from by omega]
      refine q6 _ step (by omega) (m.2.2.1 c a (L a x).length hc k ea _ _ _ _ _ _ _ (by omega) hac1 (by omega) hlena q1 ?_)
      refine r6 f _ (by omega) ?_
      rw [show step + k1 + 1 + k2 + 1 = step + (k1 + k2 + 1) + 1 from by omega, Int32.add_assoc, nI_add, show C a x + (sf_sm (C c) (y :: rest) + (L (c + 1) x).length) = (L (c + 1) x).length + (C a x + sf_sm (C c) (y :: rest)) from by omega]
      exact hW
theorem sf_mach (w : sf_WF n K st) (s : sf_Sp n K A B st L) (hl : sf_lim n K st) (hb : sf_src n K B) (hs : sf_scp n K st sc) (hC : sf_Co n K st L C) (m : sf_MI n K st sc L W W2) : ∀ p, p < n → sf_Cl n K st sc L C W W2 p :=
  sf_ind w _ (sf_mach_s w s hl hb hC m) (sf_mach_u w s hl hb hs hC m) (sf_mach_z w s hl hb hs hC m) (sf_mach_c w s hl hb hs hC m)
end MACH

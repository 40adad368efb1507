section
/-! numbers, stores -/
theorem sn_sub {a b c : Nat} (h : a = c + b) : nI a - nI b = nI c := by
  rw [pk_sub (by omega)]; exact congrArg nI (by omega)
theorem sn_p1 {n : Nat} (h : 0 < n) : nI n - 1 = nI (n - 1) := by
  obtain ⟨m, rfl⟩ : ∃ m, n = m + 1 := ⟨n - 1, by omega⟩
  exact nI_pred m
theorem sn_m1 {n : Nat} (h : 0 < n) : nI n + (-1) = nI (n - 1) := by
  obtain ⟨m, rfl⟩ : ∃ m, n = m + 1 := ⟨n - 1, by omega⟩
  exact pk_m1 m
theorem sn_neg1 {a : Nat} (h : a < 2 ^ 31) : ¬ nI a = -1 := by
  intro e
  have := nI_pos (n := a) h
  rw [e] at this
  exact this (by decide)
theorem sn_im {a b : Nat} (h : nI a = nI b) (ha : a < 2 ^ 31) (hb : b < 2 ^ 31) : a = b := (nI_eq ha hb).mp h
theorem sn_upd_self {f : Nat → Int32} {k : Nat} {x : Int32} (h : f k = x) : upd f k x = f := by
  funext j
  unfold upd
  by_cases e : j = k
  · rw [if_pos e, e, h]
  · rw [if_neg e]
theorem sn_upd_upd {f : Nat → Int32} {k : Nat} {x y : Int32} : upd (upd f k x) k y = upd f k y := by
  funext j
  unfold upd
  by_cases e : j = k
  · rw [if_pos e, if_pos e]
  · rw [if_neg e, if_neg e, if_neg e]
theorem sn_cl_neg {x : Int32} (h : x < 0) : x.toNatClampNeg = 0 := by
  have h2 : x.toInt < 0 := by
    have := Int32.lt_iff_toInt_lt.mp h
    rwa [show (0 : Int32).toInt = 0 from by decide] at this
  show x.toInt.toNat = 0
  omega
end
section
/-! the program as a forest: kinds K, starts of fragments st, scopes sc -/
def sf_ok (K st : Nat → Nat) (p : Nat) : Prop :=
  (K p ≤ 1 ∧ st p = p) ∨ (2 ≤ K p ∧ K p ≤ 6 ∧ 1 ≤ p ∧ st p = st (p - 1)) ∨ (7 ≤ K p ∧ K p ≤ 8 ∧ 1 ≤ p ∧ 1 ≤ st (p - 1) ∧ st p = st (st (p - 1) - 1))
def sf_WF (n : Nat) (K st : Nat → Nat) : Prop := ∀ p, p < n → sf_ok K st p
theorem sf_st_le {n : Nat} {K st : Nat → Nat} (w : sf_WF n K st) : ∀ p, p < n → st p ≤ p := by
  intro p
  induction p using Nat.strongRecOn with
  | ind p ih =>
    intro hp
    rcases w p hp with ⟨_, h⟩ | ⟨_, _, h1, h⟩ | ⟨_, _, h1, h2, h⟩
    · omega
    · have := ih (p - 1) (by omega) (by omega)
      omega
    · have a := ih (p - 1) (by omega) (by omega)
      have b := ih (st (p - 1) - 1) (by omega) (by omega)
      omega
/-- induction over the fragments -/
theorem sf_ind {n : Nat} {K st : Nat → Nat} (w : sf_WF n K st) (Q : Nat → Prop)
    (hs : ∀ p, p < n → K p ≤ 1 → st p = p → Q p)
    (hu : ∀ c, c + 1 < n → 2 ≤ K (c + 1) → K (c + 1) ≤ 6 → st (c + 1) = st c → Q c → Q (c + 1))
    (hz : ∀ c a, c + 1 < n → K (c + 1) = 7 → st c = a + 1 → a + 1 ≤ c → st (c + 1) = st a → Q a → Q c → Q (c + 1))
    (hc : ∀ c a, c + 1 < n → K (c + 1) = 8 → st c = a + 1 → a + 1 ≤ c → st (c + 1) = st a → Q a → Q c → Q (c + 1)) :
    ∀ p, p < n → Q p := by
  intro p
  induction p using Nat.strongRecOn with
  | ind p ih =>
    intro hp
    rcases w p hp with ⟨k, h⟩ | ⟨k, k', h1, h⟩ | ⟨k, k', h1, h2, h⟩
    · exact hs p hp k h
    · obtain ⟨c, rfl⟩ : ∃ c, p = c + 1 := ⟨p - 1, by omega⟩
      rw [Nat.add_sub_cancel] at h
      exact hu c hp k k' h (ih c (by omega) (by omega))
    · obtain ⟨c, rfl⟩ : ∃ c, p = c + 1 := ⟨p - 1, by omega⟩
      rw [Nat.add_sub_cancel] at h h2
      obtain ⟨a, ha⟩ : ∃ a, st c = a + 1 := ⟨st c - 1, by omega⟩
      have hl := sf_st_le w c (by omega)
      rw [ha, Nat.add_sub_cancel] at h
      by_cases k8 : K (c + 1) = 8
      · exact hc c a hp k8 ha (by omega) h (ih a (by omega) (by omega)) (ih c (by omega) (by omega))
      · exact hz c a hp (by omega) ha (by omega) h (ih a (by omega) (by omega)) (ih c (by omega) (by omega))
/-- fragments lie within each other or apart -/
theorem sf_lam {n : Nat} {K st : Nat → Nat} (w : sf_WF n K st) : ∀ p, p < n → ∀ q, st p ≤ q → q ≤ p → st p ≤ st q := by
  refine sf_ind w _ ?_ ?_ ?_ ?_
  · intro p hp k h q h1 h2
    have : q = p := by omega
    rw [this]; exact Nat.le_refl _
  · intro c hc k k' h ih q h1 h2
    by_cases e : q = c + 1
    · rw [e]; exact Nat.le_refl _
    · rw [h] at h1 ⊢; exact ih q h1 (by omega)
  all_goals
    intro c a hc k ha hac h iha ihc q h1 h2
    have la := sf_st_le w a (by omega)
    by_cases e : q = c + 1
    · rw [e]; exact Nat.le_refl _
    · by_cases e2 : q ≤ a
      · rw [h] at h1 ⊢; exact iha q h1 e2
      · have := ihc q (by omega) (by omega)
        omega
/-- a concatMap is known by the start of its inner fragment -/
theorem sf_uniq {n : Nat} {K st : Nat → Nat} (w : sf_WF n K st) {c d : Nat} (hc : c + 1 < n) (hd : d + 1 < n) (kc : K (c + 1) = 8) (kd : K (d + 1) = 8) (e : st c = st d) : c = d := by
  have key : ∀ c d, c + 1 < n → d + 1 < n → K (c + 1) = 8 → st c = st d → c < d → False := by
    intro c d hc hd kc e h
    rcases w (c + 1) hc with ⟨k, _⟩ | ⟨_, k, _⟩ | ⟨_, _, _, h2, h3⟩
    · omega
    · omega
    · rw [Nat.add_sub_cancel] at h2 h3
      have l1 := sf_st_le w c (by omega)
      have l2 := sf_st_le w (st c - 1) (by omega)
      have := sf_lam w d (by omega) (c + 1) (by omega) (by omega)
      omega
  rcases Nat.lt_trichotomy c d with h | h | h
  · exact (key c d hc hd kc e h).elim
  · exact h
  · exact (key d c hd hc kd e.symm h).elim
/-- no concatMap begins at a place that is no fragment's start -/
theorem sf_st_st {n : Nat} {K st : Nat → Nat} (w : sf_WF n K st) : ∀ p, p < n → st (st p) = st p ∧ K (st p) ≤ 1 := by
  refine sf_ind w _ ?_ ?_ ?_ ?_
  · intro p hp k h; rw [h]; exact ⟨h, k⟩
  · intro c hc k k' h ih; rw [h]; exact ih
  · intro c a hc k ha hac h iha ihc; rw [h]; exact iha
  · intro c a hc k ha hac h iha ihc; rw [h]; exact iha
theorem sf_no2 {n : Nat} {K st : Nat → Nat} (w : sf_WF n K st) {p c : Nat} (hp : p < n) (k : 2 ≤ K p) (hc : c < n) : st c ≠ p := by
  intro e
  have := (sf_st_st w c hc).2
  rw [e] at this
  omega
/-- where the second child of a zip begins no concatMap begins -/
theorem sf_noz {n : Nat} {K st : Nat → Nat} (w : sf_WF n K st) {c a d : Nat} (hc : c + 1 < n) (k : K (c + 1) = 7) (ha : st c = a + 1) (hd : d + 1 < n) (kd : K (d + 1) = 8) : st d ≠ st c := by
  intro e
  have lc := sf_st_le w c (by omega)
  have la := sf_st_le w a (by omega)
  have ld := sf_st_le w d (by omega)
  have hc' : st (c + 1) = st a := by
    rcases w (c + 1) hc with ⟨k, _⟩ | ⟨_, k, _⟩ | ⟨_, _, _, h2, h3⟩
    · omega
    · omega
    · rw [Nat.add_sub_cancel, ha, Nat.add_sub_cancel] at h3; exact h3
  have hd' : st (d + 1) = st a := by
    rcases w (d + 1) hd with ⟨k, _⟩ | ⟨_, k, _⟩ | ⟨_, _, _, h2, h3⟩
    · omega
    · omega
    · rw [Nat.add_sub_cancel, e, ha, Nat.add_sub_cancel] at h3; exact h3
  rcases Nat.lt_trichotomy c d with h | h | h
  · have := sf_lam w d (by omega) (c + 1) (by omega) (by omega)
    omega
  · subst h; omega
  · have := sf_lam w c (by omega) (d + 1) (by omega) (by omega)
    omega
/-- a concatMap whose inner fragment begins at or ahead of a fragment does not lie in it -/
theorem sf_out {n : Nat} {K st : Nat → Nat} (w : sf_WF n K st) {p d : Nat} (hp : p < n) (hd : d + 1 < n) (kd : K (d + 1) = 8) (e : st d ≤ st p) : d + 1 < st p ∨ p < d + 1 := by
  rcases w (d + 1) hd with ⟨k, _⟩ | ⟨_, k, _⟩ | ⟨_, _, _, h2, h3⟩
  · omega
  · omega
  · rw [Nat.add_sub_cancel] at h2 h3
    have ld := sf_st_le w d (by omega)
    have l2 := sf_st_le w (st d - 1) (by omega)
    by_cases h : d + 1 < st p
    · exact Or.inl h
    · by_cases h' : p < d + 1
      · exact Or.inr h'
      · have := sf_lam w p hp (d + 1) (by omega) (by omega)
        omega
/-! the concatMaps between two places -/
def sf_cn (K : Nat → Nat) (a : Nat) : Nat → Nat
  | 0 => 0
  | b + 1 => sf_cn K a b + if a ≤ b ∧ K b = 8 then 1 else 0
theorem sf_cn_s (K : Nat → Nat) (a b : Nat) : sf_cn K a (b + 1) = sf_cn K a b + if a ≤ b ∧ K b = 8 then 1 else 0 := rfl
theorem sf_cn_0 {K : Nat → Nat} {a : Nat} : ∀ b, b ≤ a → sf_cn K a b = 0 := by
  intro b
  induction b with
  | zero => intro _; rfl
  | succ b ih =>
    intro h
    rw [sf_cn_s, ih (by omega), if_neg (by omega)]
theorem sf_cn_add {K : Nat → Nat} {a m : Nat} (h : a ≤ m) : ∀ b, m ≤ b → sf_cn K a b = sf_cn K a m + sf_cn K m b := by
  intro b
  induction b with
  | zero =>
    intro hb
    have : m = 0 := by omega
    subst this
    rfl
  | succ b ih =>
    intro hb
    by_cases e : m = b + 1
    · rw [← e, sf_cn_0 m (Nat.le_refl _)]; rfl
    · rw [sf_cn_s, sf_cn_s, ih (by omega)]
      by_cases k : K b = 8
      · rw [if_pos ⟨by omega, k⟩, if_pos ⟨by omega, k⟩]; omega
      · rw [if_neg (by omega), if_neg (by omega)]; omega
theorem sf_cn_congr {K K' : Nat → Nat} {a : Nat} : ∀ b, (∀ q, q < b → K q = K' q) → sf_cn K a b = sf_cn K' a b := by
  intro b
  induction b with
  | zero => intro _; rfl
  | succ b ih =>
    intro h
    rw [sf_cn_s, sf_cn_s, ih (fun q hq => h q (by omega)), h b (by omega)]
/-- the exponent of a node's longest list -/
def sf_g (K st : Nat → Nat) (p : Nat) : Nat := if sf_cn K (st p) (p + 1) ≤ 2 then 1 + sf_cn K (st p) (p + 1) else 3
theorem sf_g3 (K st : Nat → Nat) (p : Nat) : sf_g K st p ≤ 3 := by
  unfold sf_g; split <;> omega
theorem sf_g_u {K st : Nat → Nat} {c : Nat} (h : st (c + 1) = st c) (k : K (c + 1) ≠ 8) : sf_g K st (c + 1) = sf_g K st c := by
  have e : (if st c ≤ c + 1 ∧ K (c + 1) = 8 then 1 else 0) = 0 := if_neg (by omega)
  unfold sf_g
  rw [h, sf_cn_s K (st c) (c + 1), e, Nat.add_zero]
theorem sf_g_z {K st : Nat → Nat} {c a : Nat} (ha : st c = a + 1) (hac : a + 1 ≤ c) (h : st (c + 1) = st a) (hl : st a ≤ a) : sf_g K st a ≤ sf_g K st (c + 1) ∧ sf_g K st c ≤ sf_g K st (c + 1) := by
  have e : sf_cn K (st a) (c + 1 + 1) = sf_cn K (st a) (a + 1) + sf_cn K (a + 1) (c + 1 + 1) := sf_cn_add (by omega) _ (by omega)
  have e2 := sf_cn_s K (a + 1) (c + 1)
  unfold sf_g
  rw [h, ha]
  constructor
  · split <;> split <;> omega
  · split <;> split <;> omega
theorem sf_g_c {K st : Nat → Nat} {c a : Nat} (k : K (c + 1) = 8) (ha : st c = a + 1) (hac : a + 1 ≤ c) (h : st (c + 1) = st a) (hl : st a ≤ a) (lim : sf_cn K (st (c + 1)) (c + 1 + 1) ≤ 2) : sf_g K st (c + 1) = sf_g K st a + sf_g K st c := by
  have e : sf_cn K (st a) (c + 1 + 1) = sf_cn K (st a) (a + 1) + sf_cn K (a + 1) (c + 1 + 1) := sf_cn_add (by omega) _ (by omega)
  have e2 := sf_cn_s K (a + 1) (c + 1)
  rw [if_pos ⟨by omega, k⟩] at e2
  unfold sf_g
  rw [h] at lim ⊢
  rw [ha, if_pos lim, if_pos (by omega), if_pos (by omega)]
  omega
end
section
/-! the lists of a program: pure -/
def sf_un (op k x : Int32) : Int32 :=
  if op = 0 then x + k else if op = 1 then x - k else if op = 2 then x * k else if op = 3 then (if k = 0 then 0 else x / k)
  else if op = 4 then (if k = 0 then 0 else x - x / k * k) else if op = 5 then (if k ≤ x then k else x) else if op = 6 then (if x ≤ k then k else x)
  else if op = 7 then -x else x * x
def sf_pr (op k x : Int32) : Bool :=
  if op = 0 then decide (x - x / 2 * 2 = 0) else if op = 1 then decide (¬ x - x / 2 * 2 = 0) else if op = 2 then decide (¬ k ≤ x) else if op = 3 then decide (¬ x ≤ k)
  else if op = 4 then decide (x = k) else if op = 5 then decide (¬ x = k) else decide (¬ k = 0 ∧ x - x / k * k = 0)
def sf_bi (op a b : Int32) : Int32 :=
  if op = 0 then a + b else if op = 1 then a - b else if op = 2 then a * b else if op = 3 then (if b ≤ a then b else a) else if op = 4 then (if a ≤ b then b else a)
  else if op = 5 then a else b
def sf_run (a : Int32) : Nat → List Int32
  | 0 => []
  | i + 1 => sf_run a i ++ [a + nI i]
theorem sf_run_len (a : Int32) : ∀ i, (sf_run a i).length = i := by
  intro i
  induction i with
  | zero => rfl
  | succ i ih => rw [sf_run, List.length_append, ih]; rfl
def sf_scan (op : Int32) : Int32 → List Int32 → List Int32
  | _, [] => []
  | s, v :: t => sf_bi op s v :: sf_scan op (sf_bi op s v) t
def sf_fold (op : Int32) : Int32 → List Int32 → Int32
  | s, [] => s
  | s, v :: t => sf_fold op (sf_bi op s v) t
theorem sf_scan_len (op : Int32) : ∀ (l : List Int32) (s : Int32), (sf_scan op s l).length = l.length := by
  intro l
  induction l with
  | nil => intro s; rfl
  | cons v t ih => intro s; rw [sf_scan, List.length_cons, List.length_cons, ih]
theorem sf_scan_snoc (op v : Int32) : ∀ (l : List Int32) (s : Int32), sf_scan op s (l ++ [v]) = sf_scan op s l ++ [sf_bi op (sf_fold op s l) v] := by
  intro l
  induction l with
  | nil => intro s; rfl
  | cons w t ih => intro s; rw [List.cons_append, sf_scan, ih, sf_scan, sf_fold, List.cons_append]
theorem sf_fold_snoc (op v : Int32) : ∀ (l : List Int32) (s : Int32), sf_fold op s (l ++ [v]) = sf_bi op (sf_fold op s l) v := by
  intro l
  induction l with
  | nil => intro s; rfl
  | cons w t ih => intro s; rw [List.cons_append, sf_fold, ih, sf_fold]
/-- the length of an inner source's list: for a modulus of 1 to 7 -/
def sf_ilx (m x : Int32) : Int32 := (x - x / m * m + m) - (x - x / m * m + m) / m * m
def sf_il (B x : Int32) : Nat := (sf_ilx (B + 1) x).toNatClampNeg
theorem sf_rem_b (x : Int32) {m : Nat} (h0 : 0 < m) (hm : m < 2 ^ 30) : -(m : Int) < (x - x / nI m * nI m).toInt ∧ (x - x / nI m * nI m).toInt < m := by
  have hz : (nI m).toInt = (m : Int) := nI_toInt (by omega)
  have hne : nI m ≠ -1 := sn_neg1 (by omega)
  have h1 := Int.tmod_lt_of_pos x.toInt (b := (m : Int)) (by omega)
  have h2 := Int.lt_tmod_of_pos x.toInt (b := (m : Int)) (by omega)
  have e : x.toInt - x.toInt.tdiv m * m = x.toInt.tmod m := by rw [Int.tmod_def, Int.mul_comm]
  rw [Int32.toInt_sub, Int32.toInt_mul, Int32.toInt_div_of_ne_right _ _ hne, hz, Int.sub_bmod_bmod, e, Int.bmod_eq_of_le (by omega) (by omega)]
  exact ⟨h2, h1⟩
theorem sf_il_b {b : Nat} (hb : b ≤ 6) (x : Int32) : sf_il (nI b) x ≤ 6 ∧ sf_ilx (nI b + 1) x = nI (sf_il (nI b) x) := by
  have hm : nI b + 1 = nI (b + 1) := nI_1 b
  obtain ⟨h1, h2⟩ := sf_rem_b x (m := b + 1) (by omega) (by omega)
  have hz : (nI (b + 1)).toInt = ((b + 1 : Nat) : Int) := nI_toInt (by omega)
  have ht : (x - x / nI (b + 1) * nI (b + 1) + nI (b + 1)).toInt = (x - x / nI (b + 1) * nI (b + 1)).toInt + ((b + 1 : Nat) : Int) := by
    rw [Int32.toInt_add, hz]
    exact Int.bmod_eq_of_le (by omega) (by omega)
  have hpos : ¬ x - x / nI (b + 1) * nI (b + 1) + nI (b + 1) < 0 := by
    rw [Int32.lt_iff_toInt_lt, ht, show (0 : Int32).toInt = 0 from by decide]
    omega
  obtain ⟨j, hj, ej⟩ := nI_of hpos
  have er : sf_ilx (nI b + 1) x = nI (j % (b + 1)) := by
    unfold sf_ilx
    rw [hm, ej]
    exact pk_rem hj (by omega) (by omega)
  have hlt := Nat.mod_lt j (y := b + 1) (by omega)
  have ei : sf_il (nI b) x = j % (b + 1) := by
    unfold sf_il
    rw [er, nI_clamp (by omega)]
  rw [ei]
  exact ⟨by omega, er⟩
/-- one node's list out of its children's -/
def sf_G (K : Nat → Nat) (A B : Nat → Int32) (st : Nat → Nat) (M : Nat → Int32 → List Int32) (p : Nat) (x : Int32) : List Int32 :=
  if K p = 0 then sf_run (A p) (B p).toNatClampNeg
  else if K p = 1 then sf_run (x + A p) (sf_il (B p) x)
  else if K p = 2 then (M (p - 1) x).map (sf_un (A p) (B p))
  else if K p = 3 then (M (p - 1) x).filter (sf_pr (A p) (B p))
  else if K p = 4 then (M (p - 1) x).take (A p).toNatClampNeg
  else if K p = 5 then (M (p - 1) x).drop (A p).toNatClampNeg
  else if K p = 6 then sf_scan (A p) (B p) (M (p - 1) x)
  else if K p = 7 then List.zipWith (sf_bi (A p)) (M (st (p - 1) - 1) x) (M (p - 1) x)
  else (M (st (p - 1) - 1) x).flatMap (M (p - 1))
def sf_Sp (n : Nat) (K : Nat → Nat) (A B : Nat → Int32) (st : Nat → Nat) (L : Nat → Int32 → List Int32) : Prop :=
  ∀ p, p < n → ∀ x, L p x = sf_G K A B st L p x
def sf_tab {β : Type} (G : (Nat → β) → Nat → β) (b0 : β) : Nat → Nat → β
  | 0 => fun _ => b0
  | m + 1 => fun q => if q = m then G (sf_tab G b0 m) m else sf_tab G b0 m q
theorem sf_cov {β : Type} (n : Nat) (G : (Nat → β) → Nat → β) (b0 : β) (hG : ∀ p, p < n → ∀ f g : Nat → β, (∀ q, q < p → f q = g q) → G f p = G g p) : ∃ f : Nat → β, ∀ p, p < n → f p = G f p := by
  have hT : ∀ m q, q < m → sf_tab G b0 m q = sf_tab G b0 (q + 1) q := by
    intro m
    induction m with
    | zero => intro q h; omega
    | succ m ih =>
      intro q h
      by_cases e : q = m
      · rw [e]
      · show (if q = m then _ else sf_tab G b0 m q) = _
        rw [if_neg e]
        exact ih q (by omega)
  refine ⟨fun q => sf_tab G b0 (q + 1) q, fun p hp => ?_⟩
  show (if p = p then G (sf_tab G b0 p) p else _) = _
  rw [if_pos rfl]
  exact hG p hp _ _ (fun q hq => hT p q hq)
theorem sf_exL {n : Nat} {K st : Nat → Nat} (w : sf_WF n K st) (A B : Nat → Int32) : ∃ L, sf_Sp n K A B st L := by
  obtain ⟨f, hf⟩ := sf_cov n (fun (M : Nat → Int32 → List Int32) p => fun x => sf_G K A B st M p x) (fun _ => []) (by
    intro p hp f g h
    funext x
    unfold sf_G
    rcases w p hp with ⟨k, _⟩ | ⟨k, k', h1, _⟩ | ⟨k, k', h1, h2, _⟩
    · by_cases k0 : K p = 0
      · rw [if_pos k0, if_pos k0]
      · rw [if_neg k0, if_neg k0, if_pos (by omega), if_pos (by omega)]
    · rw [h (p - 1) (by omega)]
      by_cases k2 : K p = 2
      · simp [k2]
      · by_cases k3 : K p = 3
        · simp [k3]
        · by_cases k4 : K p = 4
          · simp [k4]
          · by_cases k5 : K p = 5
            · simp [k5]
            · have k6 : K p = 6 := by omega
              simp [k6]
    · have hl := sf_st_le w (p - 1) (by omega)
      rw [h (p - 1) (by omega), h (st (p - 1) - 1) (by omega)])
  exact ⟨f, fun p hp x => congrFun (hf p hp) x⟩
section SP
variable {n : Nat} {K st : Nat → Nat} {A B : Nat → Int32} {L : Nat → Int32 → List Int32}
theorem sf_L0 (s : sf_Sp n K A B st L) {p : Nat} (hp : p < n) (k : K p = 0) (x : Int32) : L p x = sf_run (A p) (B p).toNatClampNeg := by
  rw [s p hp x, sf_G, if_pos k]
theorem sf_L1 (s : sf_Sp n K A B st L) {p : Nat} (hp : p < n) (k : K p = 1) (x : Int32) : L p x = sf_run (x + A p) (sf_il (B p) x) := by
  rw [s p hp x, sf_G, if_neg (by omega), if_pos k]
theorem sf_L2 (s : sf_Sp n K A B st L) {c : Nat} (hp : c + 1 < n) (k : K (c + 1) = 2) (x : Int32) : L (c + 1) x = (L c x).map (sf_un (A (c + 1)) (B (c + 1))) := by
  rw [s (c + 1) hp x, sf_G, if_neg (by omega), if_neg (by omega), if_pos k, Nat.add_sub_cancel]
theorem sf_L3 (s : sf_Sp n K A B st L) {c : Nat} (hp : c + 1 < n) (k : K (c + 1) = 3) (x : Int32) : L (c + 1) x = (L c x).filter (sf_pr (A (c + 1)) (B (c + 1))) := by
  rw [s (c + 1) hp x, sf_G, if_neg (by omega), if_neg (by omega), if_neg (by omega), if_pos k, Nat.add_sub_cancel]
theorem sf_L4 (s : sf_Sp n K A B st L) {c : Nat} (hp : c + 1 < n) (k : K (c + 1) = 4) (x : Int32) : L (c + 1) x = (L c x).take (A (c + 1)).toNatClampNeg := by
  rw [s (c + 1) hp x, sf_G, if_neg (by omega), if_neg (by omega), if_neg (by omega), if_neg (by omega), if_pos k, Nat.add_sub_cancel]
theorem sf_L5 (s : sf_Sp n K A B st L) {c : Nat} (hp : c + 1 < n) (k : K (c + 1) = 5) (x : Int32) : L (c + 1) x = (L c x).drop (A (c + 1)).toNatClampNeg := by
  rw [s (c + 1) hp x, sf_G, if_neg (by omega), if_neg (by omega), if_neg (by omega), if_neg (by omega), if_neg (by omega), if_pos k, Nat.add_sub_cancel]
theorem sf_L6 (s : sf_Sp n K A B st L) {c : Nat} (hp : c + 1 < n) (k : K (c + 1) = 6) (x : Int32) : L (c + 1) x = sf_scan (A (c + 1)) (B (c + 1)) (L c x) := by
  rw [s (c + 1) hp x, sf_G, if_neg (by omega), if_neg (by omega), if_neg (by omega), if_neg (by omega), if_neg (by omega), if_neg (by omega), if_pos k, Nat.add_sub_cancel]
theorem sf_L7 (s : sf_Sp n K A B st L) {c a : Nat} (hp : c + 1 < n) (k : K (c + 1) = 7) (ha : st c = a + 1) (x : Int32) : L (c + 1) x = List.zipWith (sf_bi (A (c + 1))) (L a x) (L c x) := by
  rw [s (c + 1) hp x, sf_G, if_neg (by omega), if_neg (by omega), if_neg (by omega), if_neg (by omega), if_neg (by omega), if_neg (by omega), if_neg (by omega), if_pos k, Nat.add_sub_cancel, ha, Nat.add_sub_cancel]
theorem sf_L8 (s : sf_Sp n K A B st L) {c a : Nat} (hp : c + 1 < n) (k : K (c + 1) = 8) (ha : st c = a + 1) (x : Int32) : L (c + 1) x = (L a x).flatMap (L c) := by
  rw [s (c + 1) hp x, sf_G, if_neg (by omega), if_neg (by omega), if_neg (by omega), if_neg (by omega), if_neg (by omega), if_neg (by omega), if_neg (by omega), if_neg (by omega), Nat.add_sub_cancel, ha, Nat.add_sub_cancel]
end SP
/-! sums over a list -/
def sf_sm (f : Int32 → Nat) : List Int32 → Nat
  | [] => 0
  | x :: t => f x + sf_sm f t
theorem sf_sm_app (f : Int32 → Nat) (l m : List Int32) : sf_sm f (l ++ m) = sf_sm f l + sf_sm f m := by
  induction l with
  | nil => rw [List.nil_append, sf_sm, Nat.zero_add]
  | cons x t ih => rw [List.cons_append, sf_sm, sf_sm, ih]; omega
theorem sf_sm_flat (f : Int32 → Nat) (g : Int32 → List Int32) (l : List Int32) : sf_sm f (l.flatMap g) = sf_sm (fun x => sf_sm f (g x)) l := by
  induction l with
  | nil => rfl
  | cons x t ih => rw [List.flatMap_cons, sf_sm_app, ih, sf_sm]
theorem sf_sm_len (g : Int32 → List Int32) (l : List Int32) : (l.flatMap g).length = sf_sm (fun x => (g x).length) l := by
  induction l with
  | nil => rfl
  | cons x t ih => rw [List.flatMap_cons, List.length_append, ih, sf_sm]
theorem sf_sm_add (f g : Int32 → Nat) (l : List Int32) : sf_sm (fun x => f x + g x) l = sf_sm f l + sf_sm g l := by
  induction l with
  | nil => rfl
  | cons x t ih => rw [sf_sm, sf_sm, sf_sm, ih]; omega
theorem sf_sm_congr {f g : Int32 → Nat} {l : List Int32} (h : ∀ x, x ∈ l → f x = g x) : sf_sm f l = sf_sm g l := by
  induction l with
  | nil => rfl
  | cons x t ih =>
    rw [sf_sm, sf_sm, h x (List.mem_cons_self ..), ih (fun y hy => h y (List.mem_cons_of_mem _ hy))]
theorem sf_sm_le {f : Int32 → Nat} {b : Nat} (h : ∀ x, f x ≤ b) (l : List Int32) : sf_sm f l ≤ l.length * b := by
  induction l with
  | nil => exact Nat.zero_le _
  | cons x t ih =>
    rw [sf_sm, List.length_cons, Nat.succ_mul]
    have := h x
    omega
/-! the longest lists -/
def sf_lim (n : Nat) (K st : Nat → Nat) : Prop := ∀ p, p < n → K p = 8 → sf_cn K (st p) (p + 1) ≤ 2
def sf_src (n : Nat) (K : Nat → Nat) (B : Nat → Int32) : Prop := ∀ p, p < n → K p ≤ 1 → ∃ b, b ≤ 6 ∧ B p = nI b
theorem sf_p6 {a b : Nat} (h : a ≤ b) : 6 ^ a ≤ 6 ^ b := Nat.pow_le_pow_right (by omega) h
theorem sf_Llen {n : Nat} {K st : Nat → Nat} {A B : Nat → Int32} {L : Nat → Int32 → List Int32} (w : sf_WF n K st) (s : sf_Sp n K A B st L) (hl : sf_lim n K st) (hb : sf_src n K B) : ∀ p, p < n → ∀ x, (L p x).length ≤ 6 ^ sf_g K st p := by
  refine sf_ind w _ ?_ ?_ ?_ ?_
  · intro p hp k e x
    obtain ⟨b, hb6, eb⟩ := hb p hp k
    have h1 : 6 ^ 1 ≤ 6 ^ sf_g K st p := sf_p6 (by unfold sf_g; split <;> omega)
    by_cases k0 : K p = 0
    · rw [sf_L0 s hp k0, sf_run_len, eb, nI_clamp (by omega)]; omega
    · rw [sf_L1 s hp (by omega), sf_run_len, eb]
      have := (sf_il_b hb6 x).1
      omega
  · intro c hc k k' e ih x
    have hg := sf_g_u (K := K) e (by omega)
    rw [hg]
    have i := ih x
    by_cases k2 : K (c + 1) = 2
    · rw [sf_L2 s hc k2, List.length_map]; exact i
    · by_cases k3 : K (c + 1) = 3
      · rw [sf_L3 s hc k3]; exact Nat.le_trans (List.length_filter_le _ _) i
      · by_cases k4 : K (c + 1) = 4
        · rw [sf_L4 s hc k4, List.length_take]; omega
        · by_cases k5 : K (c + 1) = 5
          · rw [sf_L5 s hc k5, List.length_drop]; omega
          · rw [sf_L6 s hc (by omega), sf_scan_len]; exact i
  · intro c a hc k ha hac e iha ihc x
    have hg := sf_g_z (K := K) ha hac e (sf_st_le w a (by omega))
    rw [sf_L7 s hc k ha, List.length_zipWith]
    have := sf_p6 hg.2
    have := ihc x
    omega
  · intro c a hc k ha hac e iha ihc x
    have hg := sf_g_c k ha hac e (sf_st_le w a (by omega)) (hl _ hc k)
    rw [sf_L8 s hc k ha, hg, Nat.pow_add, sf_sm_len]
    exact Nat.le_trans (sf_sm_le ihc _) (Nat.mul_le_mul_right _ (iha x))
/-! rows: all lists of a node, one behind the other -/
def sf_E (ro : Nat → List Int32) : Nat → List Int32
  | 0 => [0]
  | s + 1 => ro s
def sf_scp (n : Nat) (K st sc : Nat → Nat) : Prop :=
  (∀ p, p < n → sc p ≤ st p) ∧ ∀ c, c + 1 < n →
    (2 ≤ K (c + 1) → K (c + 1) ≤ 6 → sc c = sc (c + 1)) ∧ (∀ a, st c = a + 1 → K (c + 1) = 7 → sc c = sc (c + 1) ∧ sc a = sc (c + 1)) ∧
    (∀ a, st c = a + 1 → K (c + 1) = 8 → sc c = a + 1 ∧ sc a = sc (c + 1))
def sf_Rw (n : Nat) (sc : Nat → Nat) (L : Nat → Int32 → List Int32) (ro : Nat → List Int32) : Prop := ∀ p, p < n → ro p = (sf_E ro (sc p)).flatMap (L p)
theorem sf_exR {n : Nat} {K st sc : Nat → Nat} (w : sf_WF n K st) (hs : sf_scp n K st sc) (L : Nat → Int32 → List Int32) : ∃ ro, sf_Rw n sc L ro := by
  refine sf_cov n (fun ro p => (sf_E ro (sc p)).flatMap (L p)) [] ?_
  intro p hp f g h
  have h1 := hs.1 p hp
  have h2 := sf_st_le w p hp
  have : sf_E f (sc p) = sf_E g (sc p) := by
    cases e : sc p with
    | zero => rfl
    | succ s => exact h s (by omega)
  show (sf_E f (sc p)).flatMap (L p) = _
  rw [this]
section RW
variable {n : Nat} {K st sc : Nat → Nat} {A B : Nat → Int32} {L : Nat → Int32 → List Int32} {ro : Nat → List Int32}
theorem sf_row_le (w : sf_WF n K st) (s : sf_Sp n K A B st L) (hl : sf_lim n K st) (hb : sf_src n K B) (hr : sf_Rw n sc L ro) {p : Nat} (hp : p < n) : (ro p).length ≤ (sf_E ro (sc p)).length * 6 ^ sf_g K st p := by
  rw [hr p hp, sf_sm_len]
  exact sf_sm_le (sf_Llen w s hl hb p hp) _
theorem sf_bnd (w : sf_WF n K st) (s : sf_Sp n K A B st L) (hl : sf_lim n K st) (hb : sf_src n K B) (hs : sf_scp n K st sc) (hr : sf_Rw n sc L ro) :
    ∀ r, r < n → (sf_E ro (sc r)).length * 6 ^ sf_g K st r ≤ 216 → ∀ q, st r ≤ q → q ≤ r → (sf_E ro (sc q)).length * 6 ^ sf_g K st q ≤ 216 := by
  refine sf_ind w _ ?_ ?_ ?_ ?_
  · intro p hp k e h q h1 h2
    have : q = p := by omega
    rw [this]; exact h
  · intro c hc k k' e ih h q h1 h2
    by_cases eq : q = c + 1
    · rw [eq]; exact h
    · refine ih ?_ q (by omega) (by omega)
      rw [((hs.2 c hc).1 k k'), ← sf_g_u (K := K) e (by omega)]
      exact h
  · intro c a hc k ha hac e iha ihc h q h1 h2
    have hg := sf_g_z (K := K) ha hac e (sf_st_le w a (by omega))
    have hsc := (hs.2 c hc).2.1 a ha k
    by_cases eq : q = c + 1
    · rw [eq]; exact h
    · by_cases eq2 : q ≤ a
      · refine iha ?_ q (by omega) eq2
        rw [hsc.2]
        exact Nat.le_trans (Nat.mul_le_mul_left _ (sf_p6 hg.1)) h
      · refine ihc ?_ q (by omega) (by omega)
        rw [hsc.1]
        exact Nat.le_trans (Nat.mul_le_mul_left _ (sf_p6 hg.2)) h
  · intro c a hc k ha hac e iha ihc h q h1 h2
    have hg := sf_g_c k ha hac e (sf_st_le w a (by omega)) (hl _ hc k)
    have hsc := (hs.2 c hc).2.2 a ha k
    rw [hg, Nat.pow_add, ← Nat.mul_assoc] at h
    have hro := sf_row_le w s hl hb hr (p := a) (by omega)
    rw [hsc.2] at hro
    by_cases eq : q = c + 1
    · rw [eq, hg, Nat.pow_add, ← Nat.mul_assoc]; exact h
    · by_cases eq2 : q ≤ a
      · refine iha ?_ q (by omega) eq2
        rw [hsc.2]
        refine Nat.le_trans ?_ h
        exact Nat.le_mul_of_pos_right _ (Nat.pow_pos (by omega))
      · refine ihc ?_ q (by omega) (by omega)
        rw [hsc.1]
        exact Nat.le_trans (Nat.mul_le_mul_right _ hro) h
/-! cost -/
def sf_rs (f : Nat → Nat) (a : Nat) : Nat → Nat
  | 0 => 0
  | b + 1 => sf_rs f a b + if a ≤ b then f b else 0
theorem sf_rs_s (f : Nat → Nat) (a b : Nat) : sf_rs f a (b + 1) = sf_rs f a b + if a ≤ b then f b else 0 := rfl
theorem sf_rs_0 {f : Nat → Nat} {a : Nat} : ∀ b, b ≤ a → sf_rs f a b = 0 := by
  intro b
  induction b with
  | zero => intro _; rfl
  | succ b ih =>
    intro h
    rw [sf_rs_s, ih (by omega), if_neg (by omega)]
theorem sf_rs_add {f : Nat → Nat} {a m : Nat} (h : a ≤ m) : ∀ b, m ≤ b → sf_rs f a b = sf_rs f a m + sf_rs f m b := by
  intro b
  induction b with
  | zero =>
    intro hb
    have : m = 0 := by omega
    subst this
    rfl
  | succ b ih =>
    intro hb
    by_cases e : m = b + 1
    · rw [← e, sf_rs_0 m (Nat.le_refl _)]; rfl
    · rw [sf_rs_s, sf_rs_s, ih (by omega), if_pos (by omega), if_pos (by omega)]; omega
def sf_Co (n : Nat) (K st : Nat → Nat) (L : Nat → Int32 → List Int32) (C : Nat → Int32 → Nat) : Prop :=
  ∀ p, p < n → ∀ x, C p x = (L p x).length + (if K p ≤ 1 then 0 else if K p ≤ 6 then C (p - 1) x else if K p = 7 then C (st (p - 1) - 1) x + C (p - 1) x
    else C (st (p - 1) - 1) x + sf_sm (C (p - 1)) (L (st (p - 1) - 1) x))
theorem sf_exC (w : sf_WF n K st) (L : Nat → Int32 → List Int32) : ∃ C, sf_Co n K st L C := by
  obtain ⟨f, hf⟩ := sf_cov n (fun (C : Nat → Int32 → Nat) p => fun x => (L p x).length + (if K p ≤ 1 then 0 else if K p ≤ 6 then C (p - 1) x else if K p = 7 then C (st (p - 1) - 1) x + C (p - 1) x
    else C (st (p - 1) - 1) x + sf_sm (C (p - 1)) (L (st (p - 1) - 1) x))) (fun _ => 0) (by
    intro p hp f g h
    funext x
    rcases w p hp with ⟨k, _⟩ | ⟨k, k', h1, _⟩ | ⟨k, k', h1, h2, _⟩
    · rw [if_pos k, if_pos k]
    · rw [h (p - 1) (by omega), if_neg (by omega : ¬ K p ≤ 1), if_pos k', if_neg (by omega : ¬ K p ≤ 1), if_pos k']
    · have hl := sf_st_le w (p - 1) (by omega)
      rw [h (p - 1) (by omega), h (st (p - 1) - 1) (by omega)])
  exact ⟨f, fun p hp x => congrFun (hf p hp) x⟩
variable {C : Nat → Int32 → Nat}
theorem sf_C1 (h : sf_Co n K st L C) {p : Nat} (hp : p < n) (k : K p ≤ 1) (x : Int32) : C p x = (L p x).length := by
  rw [h p hp x, if_pos k, Nat.add_zero]
theorem sf_C2 (h : sf_Co n K st L C) {c : Nat} (hp : c + 1 < n) (k : 2 ≤ K (c + 1)) (k' : K (c + 1) ≤ 6) (x : Int32) : C (c + 1) x = (L (c + 1) x).length + C c x := by
  rw [h (c + 1) hp x, if_neg (by omega), if_pos k', Nat.add_sub_cancel]
theorem sf_C7 (h : sf_Co n K st L C) {c a : Nat} (hp : c + 1 < n) (k : K (c + 1) = 7) (ha : st c = a + 1) (x : Int32) : C (c + 1) x = (L (c + 1) x).length + (C a x + C c x) := by
  rw [h (c + 1) hp x, if_neg (by omega), if_neg (by omega), if_pos k, Nat.add_sub_cancel, ha, Nat.add_sub_cancel]
theorem sf_C8 (h : sf_Co n K st L C) {c a : Nat} (hp : c + 1 < n) (k : K (c + 1) = 8) (ha : st c = a + 1) (x : Int32) : C (c + 1) x = (L (c + 1) x).length + (C a x + sf_sm (C c) (L a x)) := by
  rw [h (c + 1) hp x, if_neg (by omega), if_neg (by omega), if_neg (by omega), Nat.add_sub_cancel, ha, Nat.add_sub_cancel]
theorem sf_cost (w : sf_WF n K st) (s : sf_Sp n K A B st L) (hs : sf_scp n K st sc) (hr : sf_Rw n sc L ro) (hC : sf_Co n K st L C) :
    ∀ p, p < n → sf_sm (C p) (sf_E ro (sc p)) = sf_rs (fun q => (ro q).length) (st p) (p + 1) := by
  have hlen : ∀ p, p < n → sf_sm (fun x => (L p x).length) (sf_E ro (sc p)) = (ro p).length := by
    intro p hp
    rw [hr p hp, sf_sm_len]
  refine sf_ind w _ ?_ ?_ ?_ ?_
  · intro p hp k e
    rw [sf_sm_congr (fun x _ => sf_C1 hC hp k x), hlen p hp, e, sf_rs_s, sf_rs_0 _ (Nat.le_refl _), if_pos (Nat.le_refl _), Nat.zero_add]
  · intro c hc k k' e ih
    have l := sf_st_le w c (by omega)
    rw [sf_sm_congr (fun x _ => sf_C2 hC hc k k' x), sf_sm_add, hlen _ hc, ← (hs.2 c hc).1 k k', ih, e, sf_rs_s _ _ (c + 1), if_pos (by omega)]
    omega
  · intro c a hc k ha hac e iha ihc
    have l := sf_st_le w a (by omega)
    have hsc := (hs.2 c hc).2.1 a ha k
    rw [sf_sm_congr (fun x _ => sf_C7 hC hc k ha x), sf_sm_add, sf_sm_add, hlen _ hc, e, sf_rs_s _ _ (c + 1), if_pos (by omega), sf_rs_add (m := a + 1) (by omega) (c + 1) (by omega), ← iha, ← ha, ← ihc, hsc.1, hsc.2]
    omega
  · intro c a hc k ha hac e iha ihc
    have l := sf_st_le w a (by omega)
    have hsc := (hs.2 c hc).2.2 a ha k
    have hi : sf_sm (C c) (sf_E ro (sc c)) = sf_sm (fun x => sf_sm (C c) (L a x)) (sf_E ro (sc (c + 1))) := by
      rw [hsc.1]
      show sf_sm (C c) (ro a) = _
      rw [hr a (by omega), sf_sm_flat, hsc.2]
    rw [sf_sm_congr (fun x _ => sf_C8 hC hc k ha x), sf_sm_add, sf_sm_add, hlen _ hc, e, sf_rs_s _ _ (c + 1), if_pos (by omega), sf_rs_add (m := a + 1) (by omega) (c + 1) (by omega), ← iha, ← ha, ← ihc, hi, hsc.2]
    omega
end RW
end
section
/-! a list that an array holds, and a list written into an array -/
def sf_Hd (a : Nat → Int32) (b : Nat) (l : List Int32) : Prop := ∀ i x, l[i]? = some x → a (b + i) = x
def sf_ap (a : Nat → Int32) (b : Nat) (l : List Int32) : Nat → Int32 := fun j => if b ≤ j ∧ j < b + l.length then l.getD (j - b) 0 else a j
theorem sf_lt {l : List Int32} {i : Nat} {x : Int32} (h : l[i]? = some x) : i < l.length := by
  obtain ⟨h', _⟩ := List.getElem?_eq_some_iff.mp h
  exact h'
theorem sf_ex {l : List Int32} {i : Nat} (h : i < l.length) : ∃ x, l[i]? = some x := ⟨l[i], List.getElem?_eq_some_iff.mpr ⟨h, rfl⟩⟩
theorem sf_Hd_nil (a : Nat → Int32) (b : Nat) : sf_Hd a b [] := by
  intro i x h
  have := sf_lt h
  exact absurd this (Nat.not_lt_zero i)
theorem sf_ap_nil (a : Nat → Int32) (b : Nat) : sf_ap a b [] = a := by
  funext j
  unfold sf_ap
  rw [if_neg]
  intro h
  have : j < b + 0 := h.2
  omega
theorem sf_ap_out {a : Nat → Int32} {b j : Nat} {l : List Int32} (h : j < b ∨ b + l.length ≤ j) : sf_ap a b l j = a j := by
  unfold sf_ap
  rw [if_neg (by omega)]
theorem sf_ap_in (a : Nat → Int32) {b i : Nat} {l : List Int32} {x : Int32} (h : l[i]? = some x) : sf_ap a b l (b + i) = x := by
  have hi := sf_lt h
  unfold sf_ap
  rw [if_pos ⟨by omega, by omega⟩, Nat.add_sub_cancel_left, List.getD_eq_getElem?_getD, h]
  rfl
theorem sf_ap_hd (a : Nat → Int32) (b : Nat) (l : List Int32) : sf_Hd (sf_ap a b l) b l := fun _ _ h => sf_ap_in a h
theorem sf_ap_snoc (a : Nat → Int32) (b : Nat) (l : List Int32) (v : Int32) : upd (sf_ap a b l) (b + l.length) v = sf_ap a b (l ++ [v]) := by
  funext j
  unfold upd
  by_cases e : j = b + l.length
  · rw [if_pos e, e]
    exact (sf_ap_in a (l := l ++ [v]) (by rw [List.getElem?_append_right (Nat.le_refl _), Nat.sub_self]; rfl)).symm
  · rw [if_neg e]
    have hl : (l ++ [v]).length = l.length + 1 := by rw [List.length_append]; rfl
    by_cases h : j < b ∨ b + l.length ≤ j
    · rw [sf_ap_out h, sf_ap_out (by omega)]
    · obtain ⟨i, rfl⟩ : ∃ i, j = b + i := ⟨j - b, by omega⟩
      obtain ⟨x, hx⟩ := sf_ex (l := l) (i := i) (by omega)
      rw [sf_ap_in a hx, sf_ap_in a (l := l ++ [v]) (x := x) (by rw [List.getElem?_append_left (sf_lt hx)]; exact hx)]
theorem sf_Hd_sub {a : Nat → Int32} {b : Nat} {l m r : List Int32} (h : sf_Hd a b (l ++ m ++ r)) : sf_Hd a (b + l.length) m := by
  intro i x hx
  have hi := sf_lt hx
  rw [Nat.add_assoc]
  refine h (l.length + i) x ?_
  rw [List.getElem?_append_left (by rw [List.length_append]; omega), List.getElem?_append_right (by omega), Nat.add_sub_cancel_left]
  exact hx
theorem sf_Hd_app {a : Nat → Int32} {b : Nat} {l m : List Int32} (h : sf_Hd a b l) (h' : sf_Hd a (b + l.length) m) : sf_Hd a b (l ++ m) := by
  intro i x hx
  by_cases hi : i < l.length
  · rw [List.getElem?_append_left hi] at hx
    exact h i x hx
  · rw [List.getElem?_append_right (by omega)] at hx
    have := h' (i - l.length) x hx
    rw [show b + l.length + (i - l.length) = b + i from by omega] at this
    exact this
theorem sf_Hd_eq {a a' : Nat → Int32} {b : Nat} {l : List Int32} (h : sf_Hd a b l) (e : ∀ i, i < l.length → a' (b + i) = a (b + i)) : sf_Hd a' b l := by
  intro i x hx
  rw [e i (sf_lt hx)]
  exact h i x hx
theorem sf_take_s {l : List Int32} {i : Nat} {v : Int32} (h : l[i]? = some v) : l.take (i + 1) = l.take i ++ [v] := by
  rw [List.take_add_one, h]; rfl
theorem sf_take_all (l : List Int32) : l.take l.length = l := List.take_of_length_le (Nat.le_refl _)
end
section
/-! the reference's machine over an interface of its steps -/
def sf_Env (n : Nat) (K st sc : Nat → Nat) (p : Nat) (x : Int32) (sl cj : Nat → Int32) : Prop :=
  (sc p = 0 → x = 0) ∧ ∀ d, d + 1 < n → K (d + 1) = 8 → st d = sc p → ∃ j, j < 216 ∧ cj (d + 1) = nI j ∧ sl ((sc p - 1) * 216 + j) = x
def sf_Fr (lo hi : Nat) (ln sl cj ac ln' sl' cj' ac' : Nat → Int32) : Prop :=
  ∀ q, (q < lo ∨ hi < q) → ln' q = ln q ∧ cj' q = cj q ∧ ac' q = ac q ∧ ∀ i, i < 216 → sl' (q * 216 + i) = sl (q * 216 + i)
theorem sf_Fr_tr {lo hi a b c d : Nat} {l0 s0 c0 a0 l1 s1 c1 a1 l2 s2 c2 a2 : Nat → Int32} (h : sf_Fr a b l0 s0 c0 a0 l1 s1 c1 a1) (h' : sf_Fr c d l1 s1 c1 a1 l2 s2 c2 a2) (h1 : lo ≤ a) (h2 : b ≤ hi) (h3 : lo ≤ c) (h4 : d ≤ hi) : sf_Fr lo hi l0 s0 c0 a0 l2 s2 c2 a2 := by
  intro q hq
  obtain ⟨e1, e2, e3, e4⟩ := h q (by omega)
  obtain ⟨f1, f2, f3, f4⟩ := h' q (by omega)
  exact ⟨f1.trans e1, f2.trans e2, f3.trans e3, fun i hi => (f4 i hi).trans (e4 i hi)⟩
theorem sf_Fr_hd {lo hi q : Nat} {l0 s0 c0 a0 l1 s1 c1 a1 : Nat → Int32} {l : List Int32} (h : sf_Fr lo hi l0 s0 c0 a0 l1 s1 c1 a1) (hq : q < lo ∨ hi < q) (hl : l.length ≤ 216) (hd : sf_Hd s0 (q * 216) l) : sf_Hd s1 (q * 216) l :=
  sf_Hd_eq hd (fun i hi => (h q hq).2.2.2 i (by omega))
section MACH
variable {n : Nat} {K st sc : Nat → Nat} {A B : Nat → Int32} {L : Nat → Int32 → List Int32} {C : Nat → Int32 → Nat}
variable {W W2 : Nat → Nat → Nat → (Nat → Int32) → (Nat → Int32) → (Nat → Int32) → (Nat → Int32) → Int32 → Prop}
/-- the machine's steps -/
def sf_MI (n : Nat) (K st sc : Nat → Nat) (L : Nat → Int32 → List Int32) (W W2 : Nat → Nat → Nat → (Nat → Int32) → (Nat → Int32) → (Nat → Int32) → (Nat → Int32) → Int32 → Prop) : Prop :=
  (∀ p, p < n → ∀ f step ln sl cj ac co, step < 100000 → (∀ d, d + 1 < n → K (d + 1) = 8 → st d = p → ac (d + 1) = 1) → W2 f step p ln sl cj ac co → W (f + 1) step p ln sl cj ac co) ∧
  (∀ c a, c + 1 < n → K (c + 1) = 8 → st c = a + 1 → ∀ f step ln sl cj ac co, step < 100000 → ac (c + 1) = 0 → ln a = 0 → W f (step + 1) (c + 2) (upd ln (c + 1) 0) sl cj ac co → W (f + 1) step (a + 1) ln sl cj ac co) ∧
  (∀ c a m, c + 1 < n → K (c + 1) = 8 → st c = a + 1 → ∀ f step ln sl cj ac co, step < 100000 → ac (c + 1) = 0 → 0 < m → m ≤ 216 → ln a = nI m → W2 f step (a + 1) (upd ln (c + 1) 0) sl (upd cj (c + 1) 0) (upd ac (c + 1) 1) co → W (f + 1) step (a + 1) ln sl cj ac co) ∧
  (∀ p, p < n → K p ≠ 8 → ∀ x f step ln sl cj ac co, step < 100000 → (2 ≤ K p → ln (p - 1) = nI (L (p - 1) x).length ∧ sf_Hd sl ((p - 1) * 216) (L (p - 1) x)) →
    (K p = 7 → ln (st (p - 1) - 1) = nI (L (st (p - 1) - 1) x).length ∧ sf_Hd sl ((st (p - 1) - 1) * 216) (L (st (p - 1) - 1) x)) →
    sf_Env n K st sc p x sl cj → W f (step + 1) (p + 1) (upd ln p (nI (L p x).length)) (sf_ap sl (p * 216) (L p x)) cj ac (co + nI (L p x).length) → W2 f step p ln sl cj ac co) ∧
  (∀ c a, c + 1 < n → K (c + 1) = 8 → st c = a + 1 → ∀ (l D : List Int32) j m f step ln sl cj ac co, step < 100000 → ln c = nI l.length → sf_Hd sl (c * 216) l → ln (c + 1) = nI D.length → D.length + l.length ≤ 216 →
    cj (c + 1) = nI j → ln a = nI m → m ≤ 216 → j + 1 < m →
    W f (step + 1) (a + 1) (upd ln (c + 1) (nI (D.length + l.length))) (sf_ap sl ((c + 1) * 216 + D.length) l) (upd cj (c + 1) (nI (j + 1))) ac co → W2 f step (c + 1) ln sl cj ac co) ∧
  (∀ c a, c + 1 < n → K (c + 1) = 8 → st c = a + 1 → ∀ (l D : List Int32) j m f step ln sl cj ac co, step < 100000 → ln c = nI l.length → sf_Hd sl (c * 216) l → ln (c + 1) = nI D.length → D.length + l.length ≤ 216 →
    cj (c + 1) = nI j → ln a = nI m → m ≤ 216 → j + 1 = m →
    W f (step + 1) (c + 2) (upd ln (c + 1) (nI (D.length + l.length))) (sf_ap sl ((c + 1) * 216 + D.length) l) (upd cj (c + 1) (nI (j + 1))) (upd ac (c + 1) 0) (co + nI (D.length + l.length)) → W2 f step (c + 1) ln sl cj ac co)
def sf_Cl (n : Nat) (K st sc : Nat → Nat) (L : Nat → Int32 → List Int32) (C : Nat → Int32 → Nat) (W W2 : Nat → Nat → Nat → (Nat → Int32) → (Nat → Int32) → (Nat → Int32) → (Nat → Int32) → Int32 → Prop) (p : Nat) : Prop :=
  ∀ x ln sl cj ac co, (∀ q, st p ≤ q → q ≤ p → ac q = 0) → sf_Env n K st sc p x sl cj → ∃ ln' sl' cj' ac' k,
    ln' p = nI (L p x).length ∧ sf_Hd sl' (p * 216) (L p x) ∧ (∀ q, st p ≤ q → q ≤ p → ac' q = 0) ∧ sf_Fr (st p) p ln sl cj ac ln' sl' cj' ac' ∧ k + 1 ≤ (p + 1 - st p) * 6 ^ sf_g K st p ∧
    ∀ f step, step + k < 100000 → W f (step + k + 1) (p + 1) ln' sl' cj' ac' (co + nI (C p x)) → W2 (f + k) step (st p) ln sl cj ac co
theorem sf_env_u {p q : Nat} {x : Int32} {sl cj : Nat → Int32} (e : sc q = sc p) (h : sf_Env n K st sc p x sl cj) : sf_Env n K st sc q x sl cj := by
  unfold sf_Env at h ⊢
  rw [e]
  exact h
theorem sf_env_fr (w : sf_WF n K st) (hs : sf_scp n K st sc) {p lo hi : Nat} {x : Int32} {l0 s0 c0 a0 l1 s1 c1 a1 : Nat → Int32} (hp : p < n) (h : sf_Env n K st sc p x s0 c0) (f : sf_Fr lo hi l0 s0 c0 a0 l1 s1 c1 a1) (h1 : st p ≤ lo) (h2 : hi ≤ p) : sf_Env n K st sc p x s1 c1 := by
  refine ⟨h.1, fun d hd kd e => ?_⟩
  obtain ⟨j, hj, ej, es⟩ := h.2 d hd kd e
  have l := hs.1 p hp
  have o := sf_out w hp hd kd (by omega)
  have hpos : 1 ≤ st d := by
    rcases w (d + 1) hd with ⟨k, _⟩ | ⟨_, k, _⟩ | ⟨_, _, _, h2, _⟩
    · omega
    · omega
    · rw [Nat.add_sub_cancel] at h2; exact h2
  refine ⟨j, hj, (f (d + 1) (by omega)).2.1.trans ej, ((f (sc p - 1) (by omega)).2.2.2 j hj).trans es⟩
/-- one node behind its children -/
theorem sf_node (m : sf_MI n K st sc L W W2) {p : Nat} (hp : p < n) (k : K p ≠ 8) (x : Int32) {ln sl cj ac : Nat → Int32} {co : Int32} {f step : Nat} (h1 : step < 100000)
    (hc : 2 ≤ K p → ln (p - 1) = nI (L (p - 1) x).length ∧ sf_Hd sl ((p - 1) * 216) (L (p - 1) x))
    (hz : K p = 7 → ln (st (p - 1) - 1) = nI (L (st (p - 1) - 1) x).length ∧ sf_Hd sl ((st (p - 1) - 1) * 216) (L (st (p - 1) - 1) x))
    (he : sf_Env n K st sc p x sl cj) (h : W f (step + 1) (p + 1) (upd ln p (nI (L p x).length)) (sf_ap sl (p * 216) (L p x)) cj ac (co + nI (L p x).length)) : W2 f step p ln sl cj ac co :=
  m.2.2.2.1 p hp k x f step ln sl cj ac co h1 hc hz he h
theorem sf_fr_node {p : Nat} {l : List Int32} {v : Int32} {ln sl cj ac : Nat → Int32} (hl : l.length ≤ 216) : sf_Fr p p ln sl cj ac (upd ln p v) (sf_ap sl (p * 216) l) cj ac := by
  intro q hq
  exact ⟨pk_un (by omega), rfl, rfl, fun i hi => sf_ap_out (by omega)⟩
theorem sf_216 {g : Nat} (h : g ≤ 3) : 6 ^ g ≤ 216 := Nat.le_trans (sf_p6 h) (by decide)
theorem sf_cladd (co : Int32) (a b : Nat) : co + nI a + nI b = co + nI (b + a) := by
  rw [Int32.add_assoc, nI_add, Nat.add_comm]
theorem sf_mach_s (w : sf_WF n K st) (s : sf_Sp n K A B st L) (hl : sf_lim n K st) (hb : sf_src n K B) (hC : sf_Co n K st L C) (m : sf_MI n K st sc L W W2) (p : Nat) (hp : p < n) (k : K p ≤ 1) (e : st p = p) : sf_Cl n K st sc L C W W2 p := by
  intro x ln sl cj ac co ha he
  have hlen : (L p x).length ≤ 216 := Nat.le_trans (sf_Llen w s hl hb p hp x) (sf_216 (sf_g3 K st p))
  refine ⟨upd ln p (nI (L p x).length), sf_ap sl (p * 216) (L p x), cj, ac, 0, pk_us, sf_ap_hd _ _ _, ha, ?_, ?_, ?_⟩
  · rw [e]; exact sf_fr_node hlen
  · rw [e, show p + 1 - p = 1 from by omega, Nat.one_mul]
    exact Nat.pow_pos (by omega)
  · intro f step h hW
    rw [sf_C1 hC hp k] at hW
    rw [e]
    exact sf_node m hp (by omega) x (by omega) (fun k' => by omega) (fun k' => by omega) he hW
theorem sf_mach_u (w : sf_WF n K st) (s : sf_Sp n K A B st L) (hl : sf_lim n K st) (hb : sf_src n K B) (hs : sf_scp n K st sc) (hC : sf_Co n K st L C) (m : sf_MI n K st sc L W W2) (c : Nat) (hc : c + 1 < n) (k : 2 ≤ K (c + 1)) (k' : K (c + 1) ≤ 6) (e : st (c + 1) = st c) (ih : sf_Cl n K st sc L C W W2 c) : sf_Cl n K st sc L C W W2 (c + 1) := by
  intro x ln sl cj ac co ha he
  have hsc := (hs.2 c hc).1 k k'
  have lc := sf_st_le w c (by omega)
  have hlen : (L (c + 1) x).length ≤ 216 := Nat.le_trans (sf_Llen w s hl hb _ hc x) (sf_216 (sf_g3 K st _))
  have hg := sf_g_u (K := K) e (by omega)
  obtain ⟨ln1, sl1, cj1, ac1, k1, q1, q2, q3, q4, q5, q6⟩ := ih x ln sl cj ac co (fun q h1 h2 => ha q (by omega) (by omega)) (sf_env_u hsc he)
  refine ⟨upd ln1 (c + 1) (nI (L (c + 1) x).length), sf_ap sl1 ((c + 1) * 216) (L (c + 1) x), cj1, ac1, k1 + 1, pk_us, sf_ap_hd _ _ _, ?_, ?_, ?_, ?_⟩
  · intro q h1 h2
    by_cases eq : q = c + 1
    · rw [eq, (q4 (c + 1) (by omega)).2.2.1]; exact ha _ (by omega) (by omega)
    · exact q3 q (by omega) (by omega)
  · exact sf_Fr_tr q4 (sf_fr_node hlen) (by omega) (by omega) (by omega) (by omega)
  · rw [e, hg, show c + 1 + 1 - st c = (c + 1 - st c) + 1 from by omega, Nat.succ_mul]
    have : 0 < 6 ^ sf_g K st c := Nat.pow_pos (by omega)
    omega
  · intro f step h hW
    rw [sf_C2 hC hc k k', ← sf_cladd] at hW
    rw [e, show f + (k1 + 1) = f + 1 + k1 from by omega]
    refine q6 (f + 1) step (by omega) (m.1 (c + 1) hc f _ _ _ _ _ _ (by omega) (fun d hd kd ed => (sf_no2 w hc k (by omega : d < n) ed).elim) ?_)
    refine sf_node m hc (by omega) x (by omega) (fun _ => ?_) (fun _ => by omega) (sf_env_fr w hs hc he q4 (by omega) (by omega)) hW
    rw [Nat.add_sub_cancel]
    exact ⟨q1, q2⟩
theorem sf_mach_z (w : sf_WF n K st) (s : sf_Sp n K A B st L) (hl : sf_lim n K st) (hb : sf_src n K B) (hs : sf_scp n K st sc) (hC : sf_Co n K st L C) (m : sf_MI n K st sc L W W2) (c a : Nat) (hc : c + 1 < n) (k : K (c + 1) = 7) (ea : st c = a + 1) (hac : a + 1 ≤ c) (e : st (c + 1) = st a) (iha : sf_Cl n K st sc L C W W2 a) (ih : sf_Cl n K st sc L C W W2 c) : sf_Cl n K st sc L C W W2 (c + 1) := by
  intro x ln sl cj ac co ha he
  have hsc := (hs.2 c hc).2.1 a ea k
  have la := sf_st_le w a (by omega)
  have hlen : (L (c + 1) x).length ≤ 216 := Nat.le_trans (sf_Llen w s hl hb _ hc x) (sf_216 (sf_g3 K st _))
  have hlena : (L a x).length ≤ 216 := Nat.le_trans (sf_Llen w s hl hb _ (by omega) x) (sf_216 (sf_g3 K st _))
  have hg := sf_g_z (K := K) ea hac e la
  obtain ⟨ln1, sl1, cj1, ac1, k1, q1, q2, q3, q4, q5, q6⟩ := iha x ln sl cj ac co (fun q h1 h2 => ha q (by omega) (by omega)) (sf_env_u hsc.2 he)
  have he1 : sf_Env n K st sc (c + 1) x sl1 cj1 := sf_env_fr w hs hc he q4 (by omega) (by omega)
  obtain ⟨ln2, sl2, cj2, ac2, k2, r1, r2, r3, r4, r5, r6⟩ := ih x ln1 sl1 cj1 ac1 (co + nI (C a x)) (fun q h1 h2 => by
    rw [(q4 q (by omega)).2.2.1]; exact ha q (by omega) (by omega)) (sf_env_u hsc.1 he1)
  have hfr : sf_Fr (st a) c ln sl cj ac ln2 sl2 cj2 ac2 := sf_Fr_tr q4 r4 (by omega) (by omega) (by omega) (by omega)
  refine ⟨upd ln2 (c + 1) (nI (L (c + 1) x).length), sf_ap sl2 ((c + 1) * 216) (L (c + 1) x), cj2, ac2, k1 + k2 + 2, pk_us, sf_ap_hd _ _ _, ?_, ?_, ?_, ?_⟩
  · intro q h1 h2
    by_cases eq : q = c + 1
    · rw [eq, (hfr (c + 1) (by omega)).2.2.1]; exact ha _ (by omega) (by omega)
    · by_cases eq2 : q ≤ a
      · rw [(r4 q (by omega)).2.2.1]; exact q3 q (by omega) eq2
      · exact r3 q (by omega) (by omega)
  · rw [e]; exact sf_Fr_tr hfr (sf_fr_node hlen) (by omega) (by omega) (by omega) (by omega)
  · rw [e, show c + 1 + 1 - st a = (a + 1 - st a) + (c + 1 - st c) + 1 from by omega, Nat.add_mul, Nat.add_mul]
    have t1 := Nat.mul_le_mul_left (a + 1 - st a) (sf_p6 hg.1)
    have t2 := Nat.mul_le_mul_left (c + 1 - st c) (sf_p6 hg.2)
    have : 0 < 6 ^ sf_g K st (c + 1) := Nat.pow_pos (by omega)
    omega
  · intro f step h hW
    rw [sf_C7 hC hc k ea, ← sf_cladd, Nat.add_comm (C a x), ← sf_cladd] at hW
    rw [e, show f + (k1 + k2 + 2) = (f + 1 + k2) + 1 + k1 from by omega]
    refine q6 _ step (by omega) (m.1 (a + 1) (by omega) _ _ _ _ _ _ _ (by omega) (fun d hd kd ed => (sf_noz w hc k ea hd kd (ed.trans ea.symm)).elim) ?_)
    rw [← ea]
    refine r6 (f + 1) _ (by omega) (m.1 (c + 1) hc f _ _ _ _ _ _ (by omega) (fun d hd kd ed => (sf_no2 w hc (by omega) (by omega : d < n) ed).elim) ?_)
    refine sf_node m hc (by omega) x (by omega) (fun _ => ?_) (fun _ => ?_) (sf_env_fr w hs hc he hfr (by omega) (by omega)) ?_
    · rw [Nat.add_sub_cancel]
      exact ⟨r1, r2⟩
    · rw [Nat.add_sub_cancel, ea, Nat.add_sub_cancel]
      exact ⟨((r4 a (by omega)).1).trans q1, sf_Fr_hd r4 (by omega) hlena q2⟩
    · rw [show step + k1 + 1 + k2 + 1 + 1 = step + (k1 + k2 + 2) + 1 from by omega]
      exact hW
theorem sf_mach_l (w : sf_WF n K st) (s : sf_Sp n K A B st L) (hl : sf_lim n K st) (hb : sf_src n K B) (hs : sf_scp n K st sc) (m : sf_MI n K st sc L W W2) (c a : Nat) (hc : c + 1 < n) (k : K (c + 1) = 8) (ea : st c = a + 1) (hac : a + 1 ≤ c) (ih : sf_Cl n K st sc L C W W2 c) (x : Int32) :
    ∀ (rest : List Int32) (y : Int32) (pre : List Int32), L a x = pre ++ y :: rest → ∀ ln sl cj ac co, ln (c + 1) = nI (pre.flatMap (L c)).length → sf_Hd sl ((c + 1) * 216) (pre.flatMap (L c)) → cj (c + 1) = nI pre.length → ac (c + 1) = 1 → (∀ q, st c ≤ q → q ≤ c → ac q = 0) →
      ln a = nI (L a x).length → sf_Hd sl (a * 216) (L a x) → ∃ ln' sl' cj' ac' k, ln' (c + 1) = nI (L (c + 1) x).length ∧ sf_Hd sl' ((c + 1) * 216) (L (c + 1) x) ∧ (∀ q, st c ≤ q → q ≤ c + 1 → ac' q = 0) ∧ sf_Fr (st c) (c + 1) ln sl cj ac ln' sl' cj' ac' ∧
      k + 1 ≤ (rest.length + 1) * ((c + 1 - st c) * 6 ^ sf_g K st c + 1) ∧
      ∀ f step, step + k < 100000 → W f (step + k + 1) (c + 2) ln' sl' cj' ac' (co + nI (sf_sm (C c) (y :: rest) + (L (c + 1) x).length)) → W2 (f + k) step (a + 1) ln sl cj ac co := by
  have hlen : (L (c + 1) x).length ≤ 216 := Nat.le_trans (sf_Llen w s hl hb _ hc x) (sf_216 (sf_g3 K st _))
  have hlena : (L a x).length ≤ 216 := Nat.le_trans (sf_Llen w s hl hb _ (by omega) x) (sf_216 (sf_g3 K st _))
  have hL := sf_L8 s hc k ea x
  have hsc := ((hs.2 c hc).2.2 a ea k).1
  intro rest
  induction rest with
  | nil =>
    intro y pre epre ln sl cj ac co h1 h2 h3 h4 h5 h6 h7
    have hf : L (c + 1) x = pre.flatMap (L c) ++ L c y := by
      rw [hL, epre, List.flatMap_append, List.flatMap_cons, List.flatMap_nil, List.append_nil]
    have hm : (L a x).length = pre.length + 1 := by rw [epre, List.length_append]; rfl
    have hsum : (pre.flatMap (L c)).length + (L c y).length = (L (c + 1) x).length := by rw [hf, List.length_append]
    have henv : sf_Env n K st sc c y sl cj := by
      refine ⟨fun z => by omega, fun d hd kd ed => ?_⟩
      have : d = c := sf_uniq w hd hc kd k (by omega)
      subst this
      refine ⟨pre.length, by omega, h3, ?_⟩
      rw [hsc, Nat.add_sub_cancel]
      exact h7 _ _ (by rw [epre, List.getElem?_append_right (Nat.le_refl _), Nat.sub_self]; rfl)
    obtain ⟨ln1, sl1, cj1, ac1, k1, q1, q2, q3, q4, q5, q6⟩ := ih y ln sl cj ac co h5 henv
    have f1 := q4 (c + 1) (by omega)
    have fa := q4 a (by omega)
    refine ⟨upd ln1 (c + 1) (nI ((pre.flatMap (L c)).length + (L c y).length)), sf_ap sl1 ((c + 1) * 216 + (pre.flatMap (L c)).length) (L c y), upd cj1 (c + 1) (nI (pre.length + 1)), upd ac1 (c + 1) 0, k1 + 1, ?_, ?_, ?_, ?_, ?_, ?_⟩
    · rw [pk_us, hsum]
    · rw [hf]
      refine sf_Hd_app (sf_Hd_eq h2 (fun i hi => ?_)) (sf_ap_hd _ _ _)
      rw [sf_ap_out (by omega)]
      exact f1.2.2.2 i (by omega)
    · intro q g1 g2
      by_cases eq : q = c + 1
      · rw [eq]; exact pk_us
      · rw [pk_un eq]; exact q3 q g1 (by omega)
    · refine sf_Fr_tr q4 (fun q hq => ?_) (Nat.le_refl _) (by omega) (Nat.le_refl _) (Nat.le_refl (c + 1))
      exact ⟨pk_un (by omega), pk_un (by omega), pk_un (by omega), fun i hi => sf_ap_out (by omega)⟩
    · rw [List.length_nil]; omega
    · intro f step h hW
      rw [show f + (k1 + 1) = f + 1 + k1 from by omega, ← ea]
      refine q6 (f + 1) step (by omega) (m.1 (c + 1) hc f _ _ _ _ _ _ (by omega) (fun d hd kd ed => (sf_no2 w hc (by omega) (by omega : d < n) ed).elim) ?_)
      refine m.2.2.2.2.2 c a hc k ea (L c y) (pre.flatMap (L c)) pre.length (L a x).length f _ _ _ _ _ _ (by omega) q1 q2 (f1.1.trans h1) (by omega) (f1.2.1.trans h3) (fa.1.trans h6) hlena hm.symm ?_
      rw [show sf_sm (C c) [y] = C c y from Nat.add_zero _, ← hsum] at hW
      rw [Int32.add_assoc, nI_add]
      exact hW
  | cons y2 rest ihr =>
    intro y pre epre ln sl cj ac co h1 h2 h3 h4 h5 h6 h7
    have epre' : L a x = (pre ++ [y]) ++ y2 :: rest := by rw [epre, List.append_assoc]; rfl
    have hm : (L a x).length = pre.length + 2 + rest.length := by
      rw [epre, List.length_append, List.length_cons, List.length_cons]; omega
    have hD : (pre ++ [y]).flatMap (L c) = pre.flatMap (L c) ++ L c y := by
      rw [List.flatMap_append, List.flatMap_cons, List.flatMap_nil, List.append_nil]
    have hf : L (c + 1) x = (pre ++ [y]).flatMap (L c) ++ (y2 :: rest).flatMap (L c) := by
      rw [hL, epre', List.flatMap_append]
    have hsum : (pre.flatMap (L c)).length + (L c y).length ≤ (L (c + 1) x).length := by
      rw [hf, hD, List.length_append, List.length_append]; omega
    have henv : sf_Env n K st sc c y sl cj := by
      refine ⟨fun z => by omega, fun d hd kd ed => ?_⟩
      have : d = c := sf_uniq w hd hc kd k (by omega)
      subst this
      refine ⟨pre.length, by omega, h3, ?_⟩
      rw [hsc, Nat.add_sub_cancel]
      exact h7 _ _ (by rw [epre, List.getElem?_append_right (Nat.le_refl _), Nat.sub_self]; rfl)
    obtain ⟨ln1, sl1, cj1, ac1, k1, q1, q2, q3, q4, q5, q6⟩ := ih y ln sl cj ac co h5 henv
    have f1 := q4 (c + 1) (by omega)
    have fa := q4 a (by omega)
    have hfr : sf_Fr (st c) (c + 1) ln sl cj ac (upd ln1 (c + 1) (nI ((pre.flatMap (L c)).length + (L c y).length))) (sf_ap sl1 ((c + 1) * 216 + (pre.flatMap (L c)).length) (L c y)) (upd cj1 (c + 1) (nI (pre.length + 1))) ac1 := by
      refine sf_Fr_tr q4 (fun q hq => ?_) (Nat.le_refl _) (by omega) (Nat.le_refl _) (Nat.le_refl (c + 1))
      exact ⟨pk_un (by omega), pk_un (by omega), rfl, fun i hi => sf_ap_out (by omega)⟩
    obtain ⟨ln2, sl2, cj2, ac2, k2, r1, r2, r3, r4, r5, r6⟩ := ihr y2 (pre ++ [y]) epre' (upd ln1 (c + 1) (nI ((pre.flatMap (L c)).length + (L c y).length))) (sf_ap sl1 ((c + 1) * 216 + (pre.flatMap (L c)).length) (L c y)) (upd cj1 (c + 1) (nI (pre.length + 1))) ac1 (co + nI (C c y))
      (by rw [pk_us, hD, List.length_append])
      (by
        rw [hD]
        refine sf_Hd_app (sf_Hd_eq h2 (fun i hi => ?_)) (sf_ap_hd _ _ _)
        rw [sf_ap_out (by omega)]
        exact f1.2.2.2 i (by omega))
      (by rw [pk_us, List.length_append]; rfl)
      (f1.2.2.1.trans h4) q3
      (by rw [pk_un (by omega)]; exact fa.1.trans h6)
      (sf_Fr_hd hfr (by omega) hlena h7)
    refine ⟨ln2, sl2, cj2, ac2, k1 + k2 + 2, r1, r2, r3, sf_Fr_tr hfr r4 (Nat.le_refl _) (Nat.le_refl _) (Nat.le_refl _) (Nat.le_refl _), ?_, ?_⟩
    · rw [List.length_cons, Nat.succ_mul (rest.length + 1)]
      omega
    · intro f step h hW
      rw [show f + (k1 + k2 + 2) = (f + k2 + 1) + 1 + k1 from by omega, ← ea]
      refine q6 _ step (by omega) (m.1 (c + 1) hc _ _ _ _ _ _ _ (by omega) (fun d hd kd ed => (sf_no2 w hc (by omega) (by omega : d < n) ed).elim) ?_)
      refine m.2.2.2.2.1 c a hc k ea (L c y) (pre.flatMap (L c)) pre.length (L a x).length _ _ _ _ _ _ _ (by omega) q1 q2 (f1.1.trans h1) (by omega) (f1.2.1.trans h3) (fa.1.trans h6) hlena (by omega) ?_
      refine m.1 (a + 1) (by omega) _ _ _ _ _ _ _ (by omega) (fun d hd kd ed => ?_) ?_
      · have : d = c := sf_uniq w hd hc kd k (by omega)
        subst this
        exact f1.2.2.1.trans h4
      · refine r6 f _ (by omega) ?_
        rw [show step + k1 + 1 + 1 + k2 + 1 = step + (k1 + k2 + 2) + 1 from by omega, Int32.add_assoc, nI_add, show C c y + (sf_sm (C c) (y2 :: rest) + (L (c + 1) x).length) = sf_sm (C c) (y :: y2 :: rest) + (L (c + 1) x).length from (Nat.add_assoc _ _ _).symm]
        exact hW
theorem sf_mach_c (w : sf_WF n K st) (s : sf_Sp n K A B st L) (hl : sf_lim n K st) (hb : sf_src n K B) (hs : sf_scp n K st sc) (hC : sf_Co n K st L C) (m : sf_MI n K st sc L W W2) (c a : Nat) (hc : c + 1 < n) (k : K (c + 1) = 8) (ea : st c = a + 1) (hac : a + 1 ≤ c) (e : st (c + 1) = st a) (iha : sf_Cl n K st sc L C W W2 a) (ih : sf_Cl n K st sc L C W W2 c) : sf_Cl n K st sc L C W W2 (c + 1) := by
  intro x ln sl cj ac co ha he
  have hsc := (hs.2 c hc).2.2 a ea k
  have la := sf_st_le w a (by omega)
  have hlena : (L a x).length ≤ 216 := Nat.le_trans (sf_Llen w s hl hb _ (by omega) x) (sf_216 (sf_g3 K st _))
  have hla := sf_Llen w s hl hb a (by omega) x
  have hg := sf_g_c k ea hac e la (hl _ hc k)
  obtain ⟨ln1, sl1, cj1, ac1, k1, q1, q2, q3, q4, q5, q6⟩ := iha x ln sl cj ac co (fun q h1 h2 => ha q (by omega) (by omega)) (sf_env_u hsc.2 he)
  have hac1 : ac1 (c + 1) = 0 := by rw [(q4 (c + 1) (by omega)).2.2.1]; exact ha _ (by omega) (by omega)
  have p6 : 0 < 6 ^ sf_g K st a := Nat.pow_pos (by omega)
  have p6c : 0 < 6 ^ sf_g K st c := Nat.pow_pos (by omega)
  have ple : 6 ^ sf_g K st a ≤ 6 ^ sf_g K st a * 6 ^ sf_g K st c := Nat.le_mul_of_pos_right _ p6c
  have t1 := Nat.mul_le_mul_left (a + 1 - st a) ple
  cases eL : L a x with
  | nil =>
    have hL : L (c + 1) x = [] := by rw [sf_L8 s hc k ea x, eL]; rfl
    have hz : ln1 a = 0 := by rw [q1, eL]; rfl
    refine ⟨upd ln1 (c + 1) 0, sl1, cj1, ac1, k1 + 1, ?_, ?_, ?_, ?_, ?_, ?_⟩
    · rw [pk_us, hL]; rfl
    · rw [hL]; exact sf_Hd_nil _ _
    · intro q h1 h2
      by_cases eq : q ≤ a
      · exact q3 q (by omega) eq
      · rw [(q4 q (by omega)).2.2.1]; exact ha q (by omega) (by omega)
    · rw [e]
      exact sf_Fr_tr (hi := c + 1) q4 (fun q (hq : q < c + 1 ∨ c + 1 < q) => ⟨pk_un (by omega), rfl, rfl, fun _ _ => rfl⟩) (Nat.le_refl _) (by omega) (by omega) (Nat.le_refl _)
    · rw [e, hg, Nat.pow_add, show c + 1 + 1 - st a = (a + 1 - st a) + (c + 1 - st c) + 1 from by omega, Nat.add_mul, Nat.add_mul]
      omega
    · intro f step h hW
      rw [sf_C8 hC hc k ea, hL, eL] at hW
      rw [e, show f + (k1 + 1) = f + 1 + k1 from by omega]
      refine q6 _ step (by omega) (m.2.1 c a hc k ea f _ _ _ _ _ _ (by omega) hac1 hz ?_)
      have ez : ([] : List Int32).length + (C a x + sf_sm (C c) []) = C a x := by
        show 0 + (C a x + 0) = _
        omega
      rw [ez] at hW
      exact hW
  | cons y rest =>
    have hmm : (L a x).length = rest.length + 1 := by rw [eL]; rfl
    have fr0 : sf_Fr (c + 1) (c + 1) ln1 sl1 cj1 ac1 (upd ln1 (c + 1) 0) sl1 (upd cj1 (c + 1) 0) (upd ac1 (c + 1) 1) :=
      fun q hq => ⟨pk_un (by omega), pk_un (by omega), pk_un (by omega), fun _ _ => rfl⟩
    obtain ⟨ln2, sl2, cj2, ac2, k2, r1, r2, r3, r4, r5, r6⟩ := sf_mach_l w s hl hb hs m c a hc k ea hac ih x rest y [] eL (upd ln1 (c + 1) 0) sl1 (upd cj1 (c + 1) 0) (upd ac1 (c + 1) 1) (co + nI (C a x))
      pk_us (sf_Hd_nil _ _) pk_us pk_us
      (fun q h1 h2 => by rw [pk_un (by omega), (q4 q (by omega)).2.2.1]; exact ha q (by omega) (by omega))
      (by rw [pk_un (by omega)]; exact q1) q2
    have hfr : sf_Fr (st a) (c + 1) ln sl cj ac ln2 sl2 cj2 ac2 :=
      sf_Fr_tr (sf_Fr_tr (lo := st a) (hi := c + 1) q4 fr0 (Nat.le_refl _) (by omega) (by omega) (by omega)) r4 (Nat.le_refl _) (Nat.le_refl _) (by omega) (Nat.le_refl _)
    refine ⟨ln2, sl2, cj2, ac2, k1 + k2 + 1, r1, r2, ?_, ?_, ?_, ?_⟩
    · intro q h1 h2
      by_cases eq : q ≤ a
      · rw [(r4 q (by omega)).2.2.1, pk_un (by omega)]; exact q3 q (by omega) eq
      · exact r3 q (by omega) (by omega)
    · rw [e]; exact hfr
    · rw [e, hg, Nat.pow_add, show c + 1 + 1 - st a = (a + 1 - st a) + (c + 1 - st c) + 1 from by omega, Nat.add_mul, Nat.add_mul]
      rw [← hmm] at r5
      have t2 := Nat.mul_le_mul_right ((c + 1 - st c) * 6 ^ sf_g K st c + 1) hla
      have t2' : 6 ^ sf_g K st a * ((c + 1 - st c) * 6 ^ sf_g K st c + 1) = 6 ^ sf_g K st a * ((c + 1 - st c) * 6 ^ sf_g K st c) + 6 ^ sf_g K st a := by rw [Nat.mul_add, Nat.mul_one]
      have t3 : 6 ^ sf_g K st a * ((c + 1 - st c) * 6 ^ sf_g K st c) = (c + 1 - st c) * (6 ^ sf_g K st a * 6 ^ sf_g K st c) := by
        rw [← Nat.mul_assoc, Nat.mul_comm (6 ^ sf_g K st a), Nat.mul_assoc]
      omega
    · intro f step h hW
      rw [sf_C8 hC hc k ea, eL] at hW
      rw [e, show f + (k1 + k2 + 1) = (f + k2) + 1 + k1 from by omega]
      refine q6 _ step (by omega) (m.2.2.1 c a (L a x).length hc k ea _ _ _ _ _ _ _ (by omega) hac1 (by omega) hlena q1 ?_)
      refine r6 f _ (by omega) ?_
      rw [show step + k1 + 1 + k2 + 1 = step + (k1 + k2 + 1) + 1 from by omega, Int32.add_assoc, nI_add, show C a x + (sf_sm (C c) (y :: rest) + (L (c + 1) x).length) = (L (c + 1) x).length + (C a x + sf_sm (C c) (y :: rest)) from by omega]
      exact hW
theorem sf_mach (w : sf_WF n K st) (s : sf_Sp n K A B st L) (hl : sf_lim n K st) (hb : sf_src n K B) (hs : sf_scp n K st sc) (hC : sf_Co n K st L C) (m : sf_MI n K st sc L W W2) : ∀ p, p < n → sf_Cl n K st sc L C W W2 p :=
  sf_ind w _ (sf_mach_s w s hl hb hC m) (sf_mach_u w s hl hb hs hC m) (sf_mach_z w s hl hb hs hC m) (sf_mach_c w s hl hb hs hC m)
end MACH
end
section
/-! rows of the component: written lists, their starts -/
theorem sf_ap_ap (a : Nat → Int32) (b : Nat) (l m : List Int32) : sf_ap (sf_ap a b l) (b + l.length) m = sf_ap a b (l ++ m) := by
  funext j
  have hl : (l ++ m).length = l.length + m.length := List.length_append
  by_cases h1 : j < b
  · rw [sf_ap_out (Or.inl (by omega)), sf_ap_out (Or.inl h1), sf_ap_out (Or.inl h1)]
  · obtain ⟨i, rfl⟩ : ∃ i, j = b + i := ⟨j - b, by omega⟩
    by_cases h2 : i < l.length
    · obtain ⟨x, hx⟩ := sf_ex h2
      rw [sf_ap_out (Or.inl (by omega)), sf_ap_in a hx, sf_ap_in a (l := l ++ m) (x := x) (by rw [List.getElem?_append_left h2]; exact hx)]
    · by_cases h3 : i < l.length + m.length
      · obtain ⟨x, hx⟩ := sf_ex (l := m) (i := i - l.length) (by omega)
        have e := sf_ap_in (sf_ap a b l) (b := b + l.length) hx
        rw [show b + l.length + (i - l.length) = b + i from by omega] at e
        rw [e, sf_ap_in a (l := l ++ m) (x := x) (by rw [List.getElem?_append_right (by omega)]; exact hx)]
      · rw [sf_ap_out (by omega), sf_ap_out (by omega), sf_ap_out (by omega)]
/-- the lists ahead of list e, one behind the other -/
def sf_P (E : List Int32) (f : Int32 → List Int32) (e : Nat) : List Int32 := (E.take e).flatMap f
theorem sf_P_0 (E : List Int32) (f : Int32 → List Int32) : sf_P E f 0 = [] := rfl
theorem sf_P_s {E : List Int32} {f : Int32 → List Int32} {e : Nat} {x : Int32} (h : E[e]? = some x) : sf_P E f (e + 1) = sf_P E f e ++ f x := by
  unfold sf_P
  rw [sf_take_s h, List.flatMap_append, List.flatMap_cons, List.flatMap_nil, List.append_nil]
theorem sf_P_all (E : List Int32) (f : Int32 → List Int32) : sf_P E f E.length = E.flatMap f := by
  unfold sf_P
  rw [sf_take_all]
theorem sf_P_split (E : List Int32) (f : Int32 → List Int32) (e : Nat) : E.flatMap f = sf_P E f e ++ (E.drop e).flatMap f := by
  unfold sf_P
  rw [← List.flatMap_append, List.take_append_drop]
theorem sf_P_le (E : List Int32) (f : Int32 → List Int32) (e : Nat) : (sf_P E f e).length ≤ (E.flatMap f).length := by
  rw [sf_P_split E f e, List.length_append]; omega
theorem sf_P_split2 {E : List Int32} {f : Int32 → List Int32} {e : Nat} {x : Int32} (h : E[e]? = some x) : E.flatMap f = sf_P E f e ++ f x ++ (E.drop (e + 1)).flatMap f := by
  rw [← sf_P_s h]
  exact sf_P_split E f (e + 1)
/-- the starts of the lists up to list e -/
def sf_S (E : List Int32) (f : Int32 → List Int32) : Nat → List Int32
  | 0 => [0]
  | e + 1 => sf_S E f e ++ [nI (sf_P E f (e + 1)).length]
theorem sf_S_len (E : List Int32) (f : Int32 → List Int32) : ∀ e, (sf_S E f e).length = e + 1 := by
  intro e
  induction e with
  | zero => rfl
  | succ e ih => rw [sf_S, List.length_append, ih]; rfl
theorem sf_S_get (E : List Int32) (f : Int32 → List Int32) : ∀ e i, i ≤ e → (sf_S E f e)[i]? = some (nI (sf_P E f i).length) := by
  intro e
  induction e with
  | zero =>
    intro i h
    have : i = 0 := by omega
    subst this
    rfl
  | succ e ih =>
    intro i h
    rw [sf_S]
    by_cases h2 : i = e + 1
    · rw [h2, List.getElem?_append_right (by rw [sf_S_len]; omega), sf_S_len, Nat.sub_self]; rfl
    · rw [List.getElem?_append_left (by rw [sf_S_len]; omega)]
      exact ih i (by omega)
/-- row q as it stands when its node has been evaluated -/
def sf_XR (vs ss ts : Nat → Int32) (E : List Int32) (f : Int32 → List Int32) (q : Nat) : Prop :=
  ts (q + 1) = nI (E.flatMap f).length ∧ sf_Hd vs ((q + 1) * 256) (E.flatMap f) ∧ ∀ e, e ≤ E.length → ss ((q + 1) * 256 + e) = nI (sf_P E f e).length
theorem sf_XR_list {vs ss ts : Nat → Int32} {E : List Int32} {f : Int32 → List Int32} {q e : Nat} {x : Int32} (h : sf_XR vs ss ts E f q) (he : E[e]? = some x) :
    ss ((q + 1) * 256 + e) = nI (sf_P E f e).length ∧ ss ((q + 1) * 256 + e + 1) = nI ((sf_P E f e).length + (f x).length) ∧ sf_Hd vs ((q + 1) * 256 + (sf_P E f e).length) (f x) := by
  have hl := sf_lt he
  refine ⟨h.2.2 e (by omega), ?_, ?_⟩
  · rw [Nat.add_assoc, h.2.2 (e + 1) (by omega), sf_P_s he, List.length_append]
  · have := h.2.1
    rw [sf_P_split2 he] at this
    exact sf_Hd_sub this
/-- the inner lists of an outer list stand one behind the other -/
theorem sf_P_cat {E : List Int32} {f g : Int32 → List Int32} {e : Nat} : sf_P (E.flatMap f) g (sf_P E f e).length = (sf_P E f e).flatMap g := by
  unfold sf_P
  have : (E.flatMap f).take ((E.take e).flatMap f).length = (E.take e).flatMap f := by
    have := sf_P_split E f e
    unfold sf_P at this
    rw [this]
    exact List.take_left
  rw [this]
theorem sf_P_cat_s {E : List Int32} {f g : Int32 → List Int32} {e : Nat} {x : Int32} (h : E[e]? = some x) : (sf_P E f (e + 1)).flatMap g = (sf_P E f e).flatMap g ++ (f x).flatMap g := by
  rw [sf_P_s h, List.flatMap_append]
theorem sf_XR_fr {vs ss ts vs' ss' ts' : Nat → Int32} {E : List Int32} {f : Int32 → List Int32} {q : Nat} (h : sf_XR vs ss ts E f q) (hl : (E.flatMap f).length < 256) (hE : E.length < 256) (e1 : ∀ j, j < (q + 2) * 256 → vs' j = vs j) (e2 : ∀ j, j < (q + 2) * 256 → ss' j = ss j) (e3 : ts' (q + 1) = ts (q + 1)) : sf_XR vs' ss' ts' E f q := by
  refine ⟨e3.trans h.1, sf_Hd_eq h.2.1 (fun i hi => e1 _ (by omega)), fun e he => ?_⟩
  rw [e2 _ (by omega)]
  exact h.2.2 e he
end
section
/-! building: the forest and the stack of its fragments, R their starts -/
def sf_u (f : Nat → Nat) (k v : Nat) : Nat → Nat := fun j => if j = k then v else f j
theorem sf_us {f : Nat → Nat} {k v : Nat} : sf_u f k v k = v := if_pos rfl
theorem sf_un' {f : Nat → Nat} {k v j : Nat} (h : j ≠ k) : sf_u f k v j = f j := if_neg h
def sf_PF (n d : Nat) (K st sc R : Nat → Nat) : Prop :=
  n ≤ 16 ∧ sf_WF n K st ∧ sf_scp n K st sc ∧ sf_lim n K st ∧ R 0 = 0 ∧ R d = n ∧ ∀ i, i < d → R i < R (i + 1) ∧ st (R (i + 1) - 1) = R i ∧ sc (R (i + 1) - 1) = 0
theorem sf_R_lt {n d : Nat} {K st sc R : Nat → Nat} (h : sf_PF n d K st sc R) : ∀ j i, i < j → j ≤ d → R i < R j := by
  intro j
  induction j with
  | zero => intro i hi; omega
  | succ j ih =>
    intro i hi hj
    have := (h.2.2.2.2.2.2 j (by omega)).1
    by_cases e : i = j
    · rw [e]; exact this
    · have := ih i (by omega) (by omega)
      omega
theorem sf_R_ge {n d : Nat} {K st sc R : Nat → Nat} (h : sf_PF n d K st sc R) : ∀ i, i ≤ d → i ≤ R i := by
  intro i
  induction i with
  | zero => intro _; omega
  | succ i ih =>
    intro hi
    have := (h.2.2.2.2.2.2 i (by omega)).1
    have := ih (by omega)
    omega
theorem sf_R_le {n d : Nat} {K st sc R : Nat → Nat} (h : sf_PF n d K st sc R) {i : Nat} (hi : i ≤ d) : R i ≤ n := by
  have e := h.2.2.2.2.2.1
  by_cases e2 : i = d
  · rw [e2]; omega
  · have := sf_R_lt h d i (by omega) (by omega)
    omega
theorem sf_d_le {n d : Nat} {K st sc R : Nat → Nat} (h : sf_PF n d K st sc R) : d ≤ n := by
  have := sf_R_ge h d (Nat.le_refl _)
  have e := h.2.2.2.2.2.1
  omega
theorem sf_WF_add {n k s : Nat} {K st : Nat → Nat} (w : sf_WF n K st)
    (h : (k ≤ 1 ∧ s = n) ∨ (2 ≤ k ∧ k ≤ 6 ∧ 1 ≤ n ∧ s = st (n - 1)) ∨ (7 ≤ k ∧ k ≤ 8 ∧ 1 ≤ n ∧ 1 ≤ st (n - 1) ∧ s = st (st (n - 1) - 1))) : sf_WF (n + 1) (sf_u K n k) (sf_u st n s) := by
  intro p hp
  unfold sf_ok
  by_cases e : p = n
  · subst e
    rw [sf_us, sf_us]
    rcases h with h | ⟨h1, h2, h3, h4⟩ | ⟨h1, h2, h3, h4, h5⟩
    · exact Or.inl h
    · rw [sf_un' (by omega)]
      exact Or.inr (Or.inl ⟨h1, h2, h3, h4⟩)
    · have := sf_st_le w (p - 1) (by omega)
      rw [sf_un' (j := p - 1) (by omega), sf_un' (j := st (p - 1) - 1) (by omega)]
      exact Or.inr (Or.inr ⟨h1, h2, h3, h4, h5⟩)
  · rw [sf_un' e, sf_un' e]
    rcases w p (by omega) with h | ⟨h1, h2, h3, h4⟩ | ⟨h1, h2, h3, h4, h5⟩
    · exact Or.inl h
    · rw [sf_un' (by omega)]
      exact Or.inr (Or.inl ⟨h1, h2, h3, h4⟩)
    · have := sf_st_le w (p - 1) (by omega)
      rw [sf_un' (j := p - 1) (by omega), sf_un' (j := st (p - 1) - 1) (by omega)]
      exact Or.inr (Or.inr ⟨h1, h2, h3, h4, h5⟩)
theorem sf_scp_add {n k s : Nat} {K st sc : Nat → Nat} (w : sf_WF n K st) (h : sf_scp n K st sc)
    (h1 : 2 ≤ k → k ≤ 6 → 1 ≤ n → sc (n - 1) = 0) (h2 : ∀ a, 1 ≤ n → st (n - 1) = a + 1 → k = 7 → sc (n - 1) = 0 ∧ sc a = 0) (h3 : ∀ a, 1 ≤ n → st (n - 1) = a + 1 → k = 8 → sc (n - 1) = a + 1 ∧ sc a = 0) : sf_scp (n + 1) (sf_u K n k) (sf_u st n s) (sf_u sc n 0) := by
  refine ⟨fun p hp => ?_, fun c hc => ?_⟩
  · by_cases e : p = n
    · subst e; rw [sf_us]; exact Nat.zero_le _
    · rw [sf_un' e, sf_un' e]; exact h.1 p (by omega)
  · by_cases e : c + 1 = n
    · subst e
      rw [Nat.add_sub_cancel] at h1 h2 h3
      rw [sf_us, sf_us, sf_un' (j := c) (by omega), sf_un' (j := c) (by omega)]
      have := sf_st_le w c (by omega)
      refine ⟨fun g1 g2 => h1 g1 g2 (by omega), fun a ea g => ?_, fun a ea g => ?_⟩
      · rw [sf_un' (by omega)]; exact h2 a (by omega) ea g
      · rw [sf_un' (by omega)]; exact h3 a (by omega) ea g
    · have := sf_st_le w c (by omega)
      rw [sf_un' (j := c + 1) e, sf_un' (j := c) (by omega), sf_un' (j := c + 1) e, sf_un' (j := c) (by omega)]
      obtain ⟨g1, g2, g3⟩ := h.2 c (by omega)
      refine ⟨g1, fun a ea g => ?_, fun a ea g => ?_⟩
      · rw [sf_un' (by omega)]; exact g2 a ea g
      · rw [sf_un' (by omega)]; exact g3 a ea g
theorem sf_cn_u {K : Nat → Nat} {n k a b : Nat} (h : b ≤ n) : sf_cn (sf_u K n k) a b = sf_cn K a b :=
  sf_cn_congr b (fun q hq => sf_un' (by omega))
theorem sf_cn_u1 {K : Nat → Nat} {n k a : Nat} : sf_cn (sf_u K n k) a (n + 1) = sf_cn K a n + if a ≤ n ∧ k = 8 then 1 else 0 := by
  rw [sf_cn_s, sf_cn_u (Nat.le_refl _), sf_us]
theorem sf_lim_add {n k s : Nat} {K st : Nat → Nat} (h : sf_lim n K st) (h1 : k = 8 → sf_cn K s n ≤ 1) : sf_lim (n + 1) (sf_u K n k) (sf_u st n s) := by
  intro p hp hk
  by_cases e : p = n
  · subst e
    rw [sf_us] at hk
    rw [sf_us, sf_cn_u1]
    have := h1 hk
    split <;> omega
  · rw [sf_un' e] at hk
    rw [sf_un' e, sf_cn_u (by omega)]
    exact h p (by omega) hk
/-- a source -/
theorem sf_PF1 {n d k : Nat} {K st sc R : Nat → Nat} (h : sf_PF n d K st sc R) (hn : n < 16) (hk : k ≤ 1) : sf_PF (n + 1) (d + 1) (sf_u K n k) (sf_u st n n) (sf_u sc n 0) (sf_u R (d + 1) (n + 1)) := by
  obtain ⟨p1, p2, p3, p4, p5, p6, p7⟩ := h
  refine ⟨by omega, sf_WF_add p2 (Or.inl ⟨hk, rfl⟩), sf_scp_add p2 p3 (by omega) (by omega) (by omega), sf_lim_add p4 (by omega), ?_, sf_us, fun i hi => ?_⟩
  · rw [sf_un' (by omega)]; exact p5
  · have hR := sf_R_le ⟨p1, p2, p3, p4, p5, p6, p7⟩ (i := i) (by omega)
    by_cases e : i = d
    · subst e
      rw [sf_us, sf_un' (by omega), p6, Nat.add_sub_cancel, sf_us, sf_us]
      exact ⟨by omega, rfl, rfl⟩
    · obtain ⟨q1, q2, q3⟩ := p7 i (by omega)
      have hR' := sf_R_le ⟨p1, p2, p3, p4, p5, p6, p7⟩ (i := i + 1) (by omega)
      rw [sf_un' (j := i) (by omega), sf_un' (j := i + 1) (by omega), sf_un' (by omega), sf_un' (by omega)]
      exact ⟨q1, q2, q3⟩
/-- a node that takes in the top fragments from d on: sources apart -/
theorem sf_PFj {n d k : Nat} {K st sc sc' R : Nat → Nat} (h : sf_PF n (d + 1) K st sc R) (hn : n < 16) (hw : sf_WF (n + 1) (sf_u K n k) (sf_u st n (R d))) (hs : sf_scp (n + 1) (sf_u K n k) (sf_u st n (R d)) (sf_u sc' n 0)) (hl : sf_lim (n + 1) (sf_u K n k) (sf_u st n (R d))) (hc : ∀ q, q < R d → sc' q = sc q) : sf_PF (n + 1) (d + 1) (sf_u K n k) (sf_u st n (R d)) (sf_u sc' n 0) (sf_u R (d + 1) (n + 1)) := by
  have hRd := sf_R_le h (i := d) (by omega)
  have hlt := sf_R_lt h
  obtain ⟨p1, p2, p3, p4, p5, p6, p7⟩ := h
  refine ⟨by omega, hw, hs, hl, ?_, sf_us, fun i hi => ?_⟩
  · rw [sf_un' (by omega)]; exact p5
  · by_cases e : i = d
    · subst e
      rw [sf_us, sf_un' (by omega), Nat.add_sub_cancel, sf_us, sf_us]
      exact ⟨by omega, rfl, rfl⟩
    · obtain ⟨q1, q2, q3⟩ := p7 i (by omega)
      have hR' : R (i + 1) ≤ R d := by
        by_cases e2 : i + 1 = d
        · rw [e2]; exact Nat.le_refl _
        · exact Nat.le_of_lt (hlt d (i + 1) (by omega) (by omega))
      rw [sf_un' (j := i) (by omega), sf_un' (j := i + 1) (by omega), sf_un' (by omega), sf_un' (by omega), hc _ (by omega)]
      exact ⟨q1, q2, q3⟩
theorem sf_top {n d : Nat} {K st sc R : Nat → Nat} (h : sf_PF n (d + 1) K st sc R) : 1 ≤ n ∧ st (n - 1) = R d ∧ sc (n - 1) = 0 ∧ R d < n := by
  obtain ⟨p1, p2, p3, p4, p5, p6, p7⟩ := h
  obtain ⟨q1, q2, q3⟩ := p7 d (by omega)
  rw [p6] at q1 q2 q3
  exact ⟨by omega, q2, q3, q1⟩
theorem sf_PF2 {n d k : Nat} {K st sc R : Nat → Nat} (h : sf_PF n (d + 1) K st sc R) (hn : n < 16) (hk : 2 ≤ k) (hk' : k ≤ 6) : sf_PF (n + 1) (d + 1) (sf_u K n k) (sf_u st n (R d)) (sf_u sc n 0) (sf_u R (d + 1) (n + 1)) := by
  obtain ⟨t1, t2, t3, t4⟩ := sf_top h
  refine sf_PFj h hn (sf_WF_add h.2.1 (Or.inr (Or.inl ⟨hk, hk', t1, t2.symm⟩))) (sf_scp_add h.2.1 h.2.2.1 (fun _ _ _ => t3) (by omega) (by omega)) (sf_lim_add h.2.2.2.1 (by omega)) (fun _ _ => rfl)
theorem sf_sec {n d : Nat} {K st sc R : Nat → Nat} (h : sf_PF n (d + 2) K st sc R) : 1 ≤ R (d + 1) ∧ R (d + 1) < n ∧ st (n - 1) = R (d + 1) ∧ st (R (d + 1) - 1) = R d ∧ sc (n - 1) = 0 ∧ sc (R (d + 1) - 1) = 0 ∧ R d < R (d + 1) := by
  obtain ⟨t1, t2, t3, t4⟩ := sf_top (d := d + 1) h
  obtain ⟨q1, q2, q3⟩ := h.2.2.2.2.2.2 d (by omega)
  exact ⟨by omega, t4, t2, q2, t3, q3, q1⟩
/-- dropping the top fragment's own place: the stack below it, with the same nodes -/
theorem sf_PFj2 {n d k : Nat} {K st sc sc' R : Nat → Nat} (h : sf_PF n (d + 2) K st sc R) (hn : n < 16) (hw : sf_WF (n + 1) (sf_u K n k) (sf_u st n (R d))) (hs : sf_scp (n + 1) (sf_u K n k) (sf_u st n (R d)) (sf_u sc' n 0)) (hl : sf_lim (n + 1) (sf_u K n k) (sf_u st n (R d))) (hc : ∀ q, q < R d → sc' q = sc q) : sf_PF (n + 1) (d + 1) (sf_u K n k) (sf_u st n (R d)) (sf_u sc' n 0) (sf_u R (d + 1) (n + 1)) := by
  have hRd := sf_R_le h (i := d) (by omega)
  have hlt := sf_R_lt h
  obtain ⟨p1, p2, p3, p4, p5, p6, p7⟩ := h
  refine ⟨by omega, hw, hs, hl, ?_, sf_us, fun i hi => ?_⟩
  · rw [sf_un' (by omega)]; exact p5
  · by_cases e : i = d
    · subst e
      rw [sf_us, sf_un' (by omega), Nat.add_sub_cancel, sf_us, sf_us]
      exact ⟨by omega, rfl, rfl⟩
    · obtain ⟨q1, q2, q3⟩ := p7 i (by omega)
      have hR' : R (i + 1) ≤ R d := by
        by_cases e2 : i + 1 = d
        · rw [e2]; exact Nat.le_refl _
        · exact Nat.le_of_lt (hlt d (i + 1) (by omega) (by omega))
      rw [sf_un' (j := i) (by omega), sf_un' (j := i + 1) (by omega), sf_un' (by omega), sf_un' (by omega), hc _ (by omega)]
      exact ⟨q1, q2, q3⟩
theorem sf_PF7 {n d : Nat} {K st sc R : Nat → Nat} (h : sf_PF n (d + 2) K st sc R) (hn : n < 16) : sf_PF (n + 1) (d + 1) (sf_u K n 7) (sf_u st n (R d)) (sf_u sc n 0) (sf_u R (d + 1) (n + 1)) := by
  obtain ⟨t1, t2, t3, t4, t5, t6, t7⟩ := sf_sec h
  refine sf_PFj2 h hn (sf_WF_add h.2.1 (Or.inr (Or.inr ⟨by omega, by omega, by omega, by omega, by rw [t3, t4]⟩))) (sf_scp_add h.2.1 h.2.2.1 (by omega) (fun a _ ea _ => ?_) (by omega)) (sf_lim_add h.2.2.2.1 (by omega)) (fun _ _ => rfl)
  rw [t3] at ea
  rw [ea, Nat.add_sub_cancel] at t6
  exact ⟨t5, t6⟩
def sf_bind (sc : Nat → Nat) (s n : Nat) : Nat → Nat := fun q => if s ≤ q ∧ q < n ∧ sc q = 0 then s else sc q
theorem sf_scp_bind {n s : Nat} {K st sc : Nat → Nat} (w : sf_WF n K st) (h : sf_scp n K st sc) (hs : 1 ≤ s) (hn : 1 ≤ n) (hst : st (n - 1) = s) : sf_scp n K st (sf_bind sc s n) := by
  have hlam : ∀ q, s ≤ q → q < n → s ≤ st q := by
    intro q h1 h2
    have := sf_lam w (n - 1) (by omega) q (by omega) (by omega)
    omega
  have hin : ∀ c, c + 1 < n → 2 ≤ K (c + 1) → (s ≤ c + 1 ↔ s ≤ c) := by
    intro c hc k
    constructor
    · intro g
      have g1 := hlam (c + 1) g hc
      rcases w (c + 1) hc with ⟨k', _⟩ | ⟨_, _, _, e⟩ | ⟨_, _, _, e1, e⟩
      · omega
      · rw [Nat.add_sub_cancel] at e
        have := sf_st_le w c (by omega)
        omega
      · rw [Nat.add_sub_cancel] at e e1
        have := sf_st_le w c (by omega)
        have := sf_st_le w (st c - 1) (by omega)
        omega
    · intro g; omega
  have hin2 : ∀ c a, c + 1 < n → 7 ≤ K (c + 1) → st c = a + 1 → (s ≤ c + 1 ↔ s ≤ a) := by
    intro c a hc k ea
    have lc := sf_st_le w c (by omega)
    constructor
    · intro g
      have g1 := hlam (c + 1) g hc
      rcases w (c + 1) hc with ⟨k', _⟩ | ⟨_, k', _⟩ | ⟨_, _, _, e1, e⟩
      · omega
      · omega
      · rw [Nat.add_sub_cancel, ea, Nat.add_sub_cancel] at e
        have := sf_st_le w a (by omega)
        omega
    · intro g; omega
  refine ⟨fun p hp => ?_, fun c hc => ⟨fun k k' => ?_, fun a ea k => ?_, fun a ea k => ?_⟩⟩
  · unfold sf_bind
    split
    · rename_i g; exact hlam p g.1 g.2.1
    · exact h.1 p hp
  · have e := (h.2 c hc).1 k k'
    have i := hin c hc k
    unfold sf_bind
    rw [e]
    by_cases g : s ≤ c ∧ sc (c + 1) = 0
    · rw [if_pos ⟨g.1, by omega, g.2⟩, if_pos ⟨by omega, hc, g.2⟩]
    · rw [if_neg (by omega), if_neg (by omega)]
  · have e := (h.2 c hc).2.1 a ea k
    have i := hin c hc (by omega)
    have i2 := hin2 c a hc (by omega) ea
    have lc := sf_st_le w c (by omega)
    unfold sf_bind
    rw [e.1, e.2]
    by_cases g : s ≤ c ∧ sc (c + 1) = 0
    · rw [if_pos ⟨g.1, by omega, g.2⟩, if_pos ⟨by omega, hc, g.2⟩, if_pos ⟨by omega, by omega, g.2⟩]
      exact ⟨rfl, rfl⟩
    · rw [if_neg (by omega), if_neg (by omega), if_neg (by omega)]
      exact ⟨rfl, rfl⟩
  · have e := (h.2 c hc).2.2 a ea k
    have i2 := hin2 c a hc (by omega) ea
    have lc := sf_st_le w c (by omega)
    unfold sf_bind
    rw [e.1, e.2, if_neg (by omega)]
    refine ⟨rfl, ?_⟩
    by_cases g : s ≤ a ∧ sc (c + 1) = 0
    · rw [if_pos ⟨g.1, by omega, g.2⟩, if_pos ⟨by omega, hc, g.2⟩]
    · rw [if_neg (by omega), if_neg (by omega)]
theorem sf_PF8 {n d : Nat} {K st sc R : Nat → Nat} (h : sf_PF n (d + 2) K st sc R) (hn : n < 16) (hl : sf_cn K (R d) n ≤ 1) : sf_PF (n + 1) (d + 1) (sf_u K n 8) (sf_u st n (R d)) (sf_u (sf_bind sc (R (d + 1)) n) n 0) (sf_u R (d + 1) (n + 1)) := by
  obtain ⟨t1, t2, t3, t4, t5, t6, t7⟩ := sf_sec h
  have hb := sf_scp_bind h.2.1 h.2.2.1 t1 (by omega) t3
  refine sf_PFj2 h hn (sf_WF_add h.2.1 (Or.inr (Or.inr ⟨by omega, by omega, by omega, by omega, by rw [t3, t4]⟩))) (sf_scp_add h.2.1 hb (by omega) (by omega) (fun a _ ea _ => ?_)) (sf_lim_add h.2.2.2.1 (fun _ => hl)) (fun q hq => ?_)
  · rw [t3] at ea
    rw [ea, Nat.add_sub_cancel] at t6
    unfold sf_bind
    rw [if_pos ⟨by omega, by omega, t5⟩, if_neg (by omega)]
    exact ⟨ea, t6⟩
  · unfold sf_bind
    rw [if_neg (by omega)]
/-! the stack of the component -/
def sf_opn (K sc : Nat → Nat) (a b : Nat) : Prop := ∃ q, a ≤ q ∧ q < b ∧ K q = 1 ∧ sc q = 0
def sf_SK (sz cc op : Nat → Int32) (d : Nat) (K sc R : Nat → Nat) : Prop :=
  ∀ i, i < d → sz i = nI (R (i + 1) - R i) ∧ cc i = nI (sf_cn K (R i) (R (i + 1))) ∧ (sf_opn K sc (R i) (R (i + 1)) → op i = 1) ∧ (¬ sf_opn K sc (R i) (R (i + 1)) → op i = 0)
theorem sf_opn_congr {K sc K' sc' : Nat → Nat} {a b : Nat} (h : ∀ q, a ≤ q → q < b → K' q = K q ∧ sc' q = sc q) : sf_opn K' sc' a b ↔ sf_opn K sc a b := by
  constructor
  · rintro ⟨q, h1, h2, h3, h4⟩
    obtain ⟨e1, e2⟩ := h q h1 h2
    exact ⟨q, h1, h2, by omega, by omega⟩
  · rintro ⟨q, h1, h2, h3, h4⟩
    obtain ⟨e1, e2⟩ := h q h1 h2
    exact ⟨q, h1, h2, by omega, by omega⟩
/-- the stack's entries below the place that a call changes -/
theorem sf_SK_low {n d k : Nat} {K st sc sc' R : Nat → Nat} {sz cc op : Nat → Int32} (hR : ∀ i, i ≤ d → R i ≤ n) (hc : ∀ q, q < R d → sc' q = sc q) (hm : ∀ i, i < d → R (i + 1) ≤ R d) (h : ∀ i, i < d → sz i = nI (R (i + 1) - R i) ∧ cc i = nI (sf_cn K (R i) (R (i + 1))) ∧ (sf_opn K sc (R i) (R (i + 1)) → op i = 1) ∧ (¬ sf_opn K sc (R i) (R (i + 1)) → op i = 0)) :
    ∀ i, i < d → sz i = nI (sf_u R (d + 1) (n + 1) (i + 1) - sf_u R (d + 1) (n + 1) i) ∧ cc i = nI (sf_cn (sf_u K n k) (sf_u R (d + 1) (n + 1) i) (sf_u R (d + 1) (n + 1) (i + 1))) ∧ (sf_opn (sf_u K n k) (sf_u sc' n 0) (sf_u R (d + 1) (n + 1) i) (sf_u R (d + 1) (n + 1) (i + 1)) → op i = 1) ∧ (¬ sf_opn (sf_u K n k) (sf_u sc' n 0) (sf_u R (d + 1) (n + 1) i) (sf_u R (d + 1) (n + 1) (i + 1)) → op i = 0) := by
  intro i hi
  obtain ⟨h1, h2, h3, h4⟩ := h i hi
  have r1 := hR (i + 1) (by omega)
  have r2 := hm i hi
  have r3 := hR d (Nat.le_refl _)
  rw [sf_un' (j := i) (by omega), sf_un' (j := i + 1) (by omega), sf_cn_u r1]
  have e : sf_opn (sf_u K n k) (sf_u sc' n 0) (R i) (R (i + 1)) ↔ sf_opn K sc (R i) (R (i + 1)) :=
    sf_opn_congr (fun q _ g2 => ⟨sf_un' (by omega), by rw [sf_un' (by omega), hc q (by omega)]⟩)
  exact ⟨h1, h2, fun g => h3 (e.mp g), fun g => h4 (fun g' => g (e.mpr g'))⟩
theorem sf_R_mono {n d : Nat} {K st sc R : Nat → Nat} (h : sf_PF n d K st sc R) {i j : Nat} (hi : i ≤ j) (hj : j ≤ d) : R i ≤ R j := by
  by_cases e : i = j
  · rw [e]; exact Nat.le_refl _
  · exact Nat.le_of_lt (sf_R_lt h j i (by omega) hj)
theorem sf_SK1 {n d k : Nat} {K st sc R : Nat → Nat} {sz cc op : Nat → Int32} {o : Int32} (h : sf_PF n d K st sc R) (hk : k ≤ 1) (ho : o = if k = 1 then 1 else 0) (hS : sf_SK sz cc op d K sc R) : sf_SK (upd sz d 1) (upd cc d 0) (upd op d o) (d + 1) (sf_u K n k) (sf_u sc n 0) (sf_u R (d + 1) (n + 1)) := by
  have hlow := sf_SK_low (k := k) (sc' := sc) (st := st) (n := n) (fun i hi => sf_R_le h hi) (fun _ _ => rfl) (fun i hi => sf_R_mono h (by omega) (Nat.le_refl _)) hS
  intro i hi
  by_cases e : i = d
  · subst e
    rw [pk_us, pk_us, pk_us, sf_us, sf_un' (by omega), h.2.2.2.2.2.1, sf_cn_u1, sf_cn_0 n (Nat.le_refl _), if_neg (by omega), show n + 1 - n = 1 from by omega]
    refine ⟨rfl, rfl, fun ⟨q, g1, g2, g3, g4⟩ => ?_, fun g => ?_⟩
    · have : q = n := by omega
      rw [this, sf_us] at g3
      rw [ho, if_pos g3]
    · rw [ho, if_neg]
      intro k1
      exact g ⟨n, Nat.le_refl _, by omega, by rw [sf_us]; exact k1, by rw [sf_us]⟩
  · rw [pk_un e, pk_un e, pk_un e]
    exact hlow i (by omega)
theorem sf_SK2 {n d k : Nat} {K st sc R : Nat → Nat} {sz cc op : Nat → Int32} (h : sf_PF n (d + 1) K st sc R) (hk : 2 ≤ k) (hk' : k ≤ 6) (hS : sf_SK sz cc op (d + 1) K sc R) : sf_SK (upd sz d (sz d + 1)) cc op (d + 1) (sf_u K n k) (sf_u sc n 0) (sf_u R (d + 1) (n + 1)) := by
  have hlow := sf_SK_low (d := d) (k := k) (sc' := sc) (st := st) (n := n) (R := R) (fun i hi => sf_R_le h (i := i) (by omega)) (fun _ _ => rfl) (fun i hi => sf_R_mono h (by omega) (by omega)) (fun i hi => hS i (by omega))
  obtain ⟨t1, t2, t3, t4⟩ := sf_top h
  intro i hi
  by_cases e : i = d
  · subst e
    obtain ⟨h1, h2, h3, h4⟩ := hS i (by omega)
    rw [h.2.2.2.2.2.1] at h1 h2 h3 h4
    rw [pk_us, sf_us, sf_un' (by omega), sf_cn_u1, if_neg (by omega), Nat.add_zero, h1, nI_1]
    have eo : sf_opn (sf_u K n k) (sf_u sc n 0) (R i) (n + 1) ↔ sf_opn K sc (R i) n := by
      constructor
      · rintro ⟨q, g1, g2, g3, g4⟩
        have hq : q ≠ n := by
          intro eq
          rw [eq, sf_us] at g3
          omega
        rw [sf_un' hq] at g3 g4
        exact ⟨q, g1, by omega, g3, g4⟩
      · rintro ⟨q, g1, g2, g3, g4⟩
        exact ⟨q, g1, by omega, by rw [sf_un' (by omega)]; exact g3, by rw [sf_un' (by omega)]; exact g4⟩
    exact ⟨congrArg nI (by omega), h2, fun g => h3 (eo.mp g), fun g => h4 (fun g' => g (eo.mpr g'))⟩
  · rw [pk_un e]
    exact hlow i (by omega)
theorem sf_SK7 {n d : Nat} {K st sc R : Nat → Nat} {sz cc op : Nat → Int32} {o : Int32} (h : sf_PF n (d + 2) K st sc R) (hS : sf_SK sz cc op (d + 2) K sc R) (ho : (op d = 1 ∨ op (d + 1) = 1 → o = 1) ∧ (op d = 0 ∧ op (d + 1) = 0 → o = 0)) : sf_SK (upd sz d (sz d + (sz (d + 1) + 1))) (upd cc d (cc d + cc (d + 1))) (upd op d o) (d + 1) (sf_u K n 7) (sf_u sc n 0) (sf_u R (d + 1) (n + 1)) := by
  have hlow := sf_SK_low (d := d) (k := 7) (sc' := sc) (st := st) (n := n) (R := R) (fun i hi => sf_R_le h (i := i) (by omega)) (fun _ _ => rfl) (fun i hi => sf_R_mono h (by omega) (by omega)) (fun i hi => hS i (by omega))
  obtain ⟨t1, t2, t3, t4, t5, t6, t7⟩ := sf_sec h
  intro i hi
  by_cases e : i = d
  · subst e
    obtain ⟨h1, h2, h3, h4⟩ := hS i (by omega)
    obtain ⟨g1, g2, g3, g4⟩ := hS (i + 1) (by omega)
    have en : R (i + 1 + 1) = n := h.2.2.2.2.2.1
    rw [en] at g1 g2 g3 g4
    rw [pk_us, pk_us, pk_us, sf_us, sf_un' (by omega), sf_cn_u1, if_neg (by omega), Nat.add_zero, h1, g1, nI_1, nI_add, h2, g2, nI_add]
    have ec := sf_cn_add (K := K) (a := R i) (m := R (i + 1)) (by omega) n (by omega)
    refine ⟨congrArg nI (by omega), congrArg nI (by omega), fun ⟨q, q1, q2, q3, q4⟩ => ?_, fun g => ?_⟩
    · have hq : q ≠ n := by
        intro eq
        rw [eq, sf_us] at q3
        omega
      rw [sf_un' hq] at q3 q4
      by_cases l : q < R (i + 1)
      · exact ho.1 (Or.inl (h3 ⟨q, q1, l, q3, q4⟩))
      · exact ho.1 (Or.inr (g3 ⟨q, by omega, by omega, q3, q4⟩))
    · refine ho.2 ⟨h4 ?_, g4 ?_⟩
      · rintro ⟨q, q1, q2, q3, q4⟩
        exact g ⟨q, q1, by omega, by rw [sf_un' (by omega)]; exact q3, by rw [sf_un' (by omega)]; exact q4⟩
      · rintro ⟨q, q1, q2, q3, q4⟩
        exact g ⟨q, by omega, by omega, by rw [sf_un' (by omega)]; exact q3, by rw [sf_un' (by omega)]; exact q4⟩
  · rw [pk_un e, pk_un e, pk_un e]
    exact hlow i (by omega)
theorem sf_SK8 {n d : Nat} {K st sc R : Nat → Nat} {sz cc op : Nat → Int32} (h : sf_PF n (d + 2) K st sc R) (hS : sf_SK sz cc op (d + 2) K sc R) : sf_SK (upd sz d (sz d + (sz (d + 1) + 1))) (upd cc d (cc d + cc (d + 1) + 1)) op (d + 1) (sf_u K n 8) (sf_u (sf_bind sc (R (d + 1)) n) n 0) (sf_u R (d + 1) (n + 1)) := by
  have hb : ∀ q, q < R (d + 1) → sf_bind sc (R (d + 1)) n q = sc q := by
    intro q hq
    unfold sf_bind
    rw [if_neg (by omega)]
  obtain ⟨t1, t2, t3, t4, t5, t6, t7⟩ := sf_sec h
  have hlow := sf_SK_low (d := d) (k := 8) (sc' := sf_bind sc (R (d + 1)) n) (st := st) (n := n) (R := R) (fun i hi => sf_R_le h (i := i) (by omega)) (fun q hq => hb q (by omega)) (fun i hi => sf_R_mono h (by omega) (by omega)) (fun i hi => hS i (by omega))
  intro i hi
  by_cases e : i = d
  · subst e
    obtain ⟨h1, h2, h3, h4⟩ := hS i (by omega)
    obtain ⟨g1, g2, g3, g4⟩ := hS (i + 1) (by omega)
    have en : R (i + 1 + 1) = n := h.2.2.2.2.2.1
    rw [en] at g1 g2 g3 g4
    rw [pk_us, pk_us, sf_us, sf_un' (by omega), sf_cn_u1, if_pos (by omega), h1, g1, nI_1, nI_add, h2, g2, nI_add, nI_1]
    have ec := sf_cn_add (K := K) (a := R i) (m := R (i + 1)) (by omega) n (by omega)
    have eo : sf_opn (sf_u K n 8) (sf_u (sf_bind sc (R (i + 1)) n) n 0) (R i) (n + 1) ↔ sf_opn K sc (R i) (R (i + 1)) := by
      constructor
      · rintro ⟨q, q1, q2, q3, q4⟩
        have hq : q ≠ n := by
          intro eq
          rw [eq, sf_us] at q3
          omega
        rw [sf_un' hq] at q3 q4
        by_cases l : q < R (i + 1)
        · rw [hb q l] at q4
          exact ⟨q, q1, l, q3, q4⟩
        · unfold sf_bind at q4
          split at q4
          · omega
          · rename_i g; omega
      · rintro ⟨q, q1, q2, q3, q4⟩
        exact ⟨q, q1, by omega, by rw [sf_un' (by omega)]; exact q3, by rw [sf_un' (by omega), hb q q2]; exact q4⟩
    exact ⟨congrArg nI (by omega), congrArg nI (by omega), fun g => h3 (eo.mp g), fun g => h4 (fun g' => g (eo.mpr g'))⟩
  · rw [pk_un e, pk_un e]
    exact hlow i (by omega)
end
section
/-! the nodes as the two states keep them -/
def sf_XN (ki op ar lo so A B : Nat → Int32) (K st sc : Nat → Nat) (p : Nat) : Prop :=
  ki (p + 1) = nI (K p) ∧ so (p + 1) = nI (sc p) ∧ (K p ≤ 1 → op (p + 1) = B p ∧ ar (p + 1) = A p) ∧ (K p = 2 ∨ K p = 3 ∨ K p = 6 → op (p + 1) = A p ∧ ar (p + 1) = B p) ∧
  (K p = 4 ∨ K p = 5 → ar (p + 1) = A p) ∧ (K p = 7 → op (p + 1) = A p) ∧ (7 ≤ K p → lo (p + 1) = nI (st (p - 1)))
def sf_YN (n : Nat) (ki s' bi : Nat → Int32) (K st sc : Nat → Nat) (p : Nat) : Prop :=
  ki p = nI (K p) ∧ s' p = nI (st p) ∧ (K p = 1 → (sc p = 0 ∧ bi p = -1) ∨ ∃ d, d + 1 < n ∧ K (d + 1) = 8 ∧ st d = sc p ∧ bi p = nI (d + 1))
theorem sf_XN_old {ki op ar lo so A B : Nat → Int32} {K st sc sc' : Nat → Nat} {n p k s : Nat} {so' : Nat → Int32} {v1 v2 v3 v5 v6 v7 : Int32} (hp : p < n) (h : sf_XN ki op ar lo so A B K st sc p) (hs : so' (p + 1) = nI (sc' p)) :
    sf_XN (upd ki (n + 1) v1) (upd op (n + 1) v2) (upd ar (n + 1) v3) lo (upd so' (n + 1) v5) (upd A n v6) (upd B n v7) (sf_u K n k) (sf_u st n s) (sf_u sc' n 0) p := by
  unfold sf_XN at h ⊢
  rw [pk_un (by omega), pk_un (by omega), pk_un (by omega), pk_un (by omega), pk_un (by omega), pk_un (by omega), sf_un' (f := K) (by omega), sf_un' (f := sc') (by omega), sf_un' (f := st) (by omega)]
  exact ⟨h.1, hs, h.2.2⟩
theorem sf_XN_lo {ki op ar lo so A B : Nat → Int32} {K st sc : Nat → Nat} {m p : Nat} {v : Int32} (hp : p + 1 ≠ m) (h : sf_XN ki op ar lo so A B K st sc p) : sf_XN ki op ar (upd lo m v) so A B K st sc p := by
  unfold sf_XN at h ⊢
  rw [pk_un (by omega)]
  exact h
theorem sf_YN_old {ki s' bi bi' : Nat → Int32} {K st sc sc' : Nat → Nat} {n p k s : Nat} {v1 v2 v3 : Int32} (hp : p < n) (h : sf_YN n ki s' bi K st sc p)
    (hb : K p = 1 → (sc' p = 0 ∧ bi' p = -1) ∨ ∃ d, d + 1 < n + 1 ∧ sf_u K n k (d + 1) = 8 ∧ sf_u st n s d = sc' p ∧ bi' p = nI (d + 1)) :
    sf_YN (n + 1) (upd ki n v1) (upd s' n v2) (upd bi' n v3) (sf_u K n k) (sf_u st n s) (sf_u sc' n 0) p := by
  unfold sf_YN
  rw [pk_un (by omega), pk_un (by omega), pk_un (by omega), sf_un' (f := K) (j := p) (by omega), sf_un' (f := sc') (j := p) (by omega), sf_un' (f := st) (j := p) (by omega)]
  exact ⟨h.1, h.2.1, hb⟩
theorem sf_YN_keep {ki s' bi : Nat → Int32} {K st sc : Nat → Nat} {n p k s : Nat} (hp : p < n) (h : sf_YN n ki s' bi K st sc p) :
    K p = 1 → (sc p = 0 ∧ bi p = -1) ∨ ∃ d, d + 1 < n + 1 ∧ sf_u K n k (d + 1) = 8 ∧ sf_u st n s d = sc p ∧ bi p = nI (d + 1) := by
  intro k1
  rcases h.2.2 k1 with g | ⟨d, g1, g2, g3, g4⟩
  · exact Or.inl g
  · exact Or.inr ⟨d, by omega, by rw [sf_un' (by omega)]; exact g2, by rw [sf_un' (by omega)]; exact g3, g4⟩
theorem sf_XN_new {ki op ar lo so A B : Nat → Int32} {K st sc : Nat → Nat} {n k s : Nat} {v2 v3 v6 v7 : Int32} (h1 : k ≤ 1 → v2 = v7 ∧ v3 = v6) (h2 : k = 2 ∨ k = 3 ∨ k = 6 → v2 = v6 ∧ v3 = v7) (h3 : k = 4 ∨ k = 5 → v3 = v6) (h4 : k = 7 → v2 = v6) (h5 : 7 ≤ k → 1 ≤ n ∧ lo (n + 1) = nI (st (n - 1))) :
    sf_XN (upd ki (n + 1) (nI k)) (upd op (n + 1) v2) (upd ar (n + 1) v3) lo (upd so (n + 1) 0) (upd A n v6) (upd B n v7) (sf_u K n k) (sf_u st n s) (sf_u sc n 0) n := by
  unfold sf_XN
  rw [pk_us, pk_us, pk_us, pk_us, pk_us, pk_us, sf_us, sf_us]
  refine ⟨rfl, rfl, h1, h2, h3, h4, fun g => ?_⟩
  rw [sf_un' (by have := h5 g; omega)]
  exact (h5 g).2
theorem sf_YN_new {ki s' bi : Nat → Int32} {K st sc : Nat → Nat} {n k s : Nat} : sf_YN (n + 1) (upd ki n (nI k)) (upd s' n (nI s)) (upd bi n (-1)) (sf_u K n k) (sf_u st n s) (sf_u sc n 0) n := by
  unfold sf_YN
  rw [pk_us, pk_us, pk_us, sf_us, sf_us, sf_us]
  exact ⟨rfl, rfl, fun _ => Or.inl ⟨rfl, rfl⟩⟩
/-! binding -/
def sf_sb (so : Nat → Int32) (s m : Nat) (v : Int32) : Nat → Int32 := fun q => if s ≤ q ∧ q < m ∧ so q = 0 then v else so q
theorem sf_sb_0 (so : Nat → Int32) (s : Nat) (v : Int32) : sf_sb so s s v = so := by
  funext q
  unfold sf_sb
  rw [if_neg]
  rintro ⟨h1, h2, _⟩
  omega
theorem sf_sb_t {so : Nat → Int32} {s m : Nat} {v : Int32} (h : s ≤ m) (e : so m = 0) : upd (sf_sb so s m v) m v = sf_sb so s (m + 1) v := by
  funext q
  unfold sf_sb upd
  by_cases g : q = m
  · rw [if_pos g, if_pos ⟨by omega, by omega, by rw [g]; exact e⟩]
  · rw [if_neg g]
    dsimp only
    by_cases g2 : s ≤ q ∧ q < m ∧ so q = 0
    · rw [if_pos g2, if_pos ⟨g2.1, by omega, g2.2.2⟩]
    · rw [if_neg g2, if_neg]
      rintro ⟨h1, h2, h3⟩
      exact g2 ⟨h1, by omega, h3⟩
theorem sf_sb_f {so : Nat → Int32} {s m : Nat} {v : Int32} (e : ¬ so m = 0) : sf_sb so s m v = sf_sb so s (m + 1) v := by
  funext q
  unfold sf_sb
  by_cases g2 : s ≤ q ∧ q < m ∧ so q = 0
  · rw [if_pos g2, if_pos ⟨g2.1, by omega, g2.2.2⟩]
  · rw [if_neg g2, if_neg]
    rintro ⟨h1, h2, h3⟩
    by_cases g : q = m
    · rw [g] at h3; exact e h3
    · exact g2 ⟨h1, by omega, h3⟩
theorem sf_sb_m (so : Nat → Int32) (s m : Nat) (v : Int32) : sf_sb so s m v m = so m := by
  unfold sf_sb
  rw [if_neg]
  rintro ⟨_, h, _⟩
  omega
def sf_bb (ki bi : Nat → Int32) (s m : Nat) (v : Int32) : Nat → Int32 := fun q => if s ≤ q ∧ q < m ∧ ki q = 1 ∧ bi q = -1 then v else bi q
theorem sf_bb_0 (ki bi : Nat → Int32) (s : Nat) (v : Int32) : sf_bb ki bi s s v = bi := by
  funext q
  unfold sf_bb
  rw [if_neg]
  rintro ⟨h1, h2, _⟩
  omega
theorem sf_bb_t {ki bi : Nat → Int32} {s m : Nat} {v : Int32} (h : s ≤ m) (e : ki m = 1) (e' : bi m = -1) : upd (sf_bb ki bi s m v) m v = sf_bb ki bi s (m + 1) v := by
  funext q
  unfold sf_bb upd
  by_cases g : q = m
  · rw [if_pos g, if_pos ⟨by omega, by omega, by rw [g]; exact e, by rw [g]; exact e'⟩]
  · rw [if_neg g]
    dsimp only
    by_cases g2 : s ≤ q ∧ q < m ∧ ki q = 1 ∧ bi q = -1
    · rw [if_pos g2, if_pos ⟨g2.1, by omega, g2.2.2⟩]
    · rw [if_neg g2, if_neg]
      rintro ⟨h1, h2, h3⟩
      exact g2 ⟨h1, by omega, h3⟩
theorem sf_bb_f {ki bi : Nat → Int32} {s m : Nat} {v : Int32} (e : ¬ (ki m = 1 ∧ bi m = -1)) : sf_bb ki bi s m v = sf_bb ki bi s (m + 1) v := by
  funext q
  unfold sf_bb
  by_cases g2 : s ≤ q ∧ q < m ∧ ki q = 1 ∧ bi q = -1
  · rw [if_pos g2, if_pos ⟨g2.1, by omega, g2.2.2⟩]
  · rw [if_neg g2, if_neg]
    rintro ⟨h1, h2, h3⟩
    by_cases g : q = m
    · rw [g] at h3; exact e h3
    · exact g2 ⟨h1, by omega, h3⟩
theorem sf_bb_m (ki bi : Nat → Int32) (s m : Nat) (v : Int32) : sf_bb ki bi s m v m = bi m := by
  unfold sf_bb
  rw [if_neg]
  rintro ⟨_, h, _⟩
  omega
/-- binding, as the component and as the reference keep it -/
theorem sf_bindX {so : Nat → Int32} {sc : Nat → Nat} {s n p : Nat} (hp : p < n) (hs : s < 2 ^ 31) (hsc : sc p < 2 ^ 31) (h : so (p + 1) = nI (sc p)) : sf_sb so (s + 1) (n + 1) (nI s) (p + 1) = nI (sf_bind sc s n p) := by
  unfold sf_sb sf_bind
  by_cases g : s ≤ p ∧ p < n ∧ sc p = 0
  · rw [if_pos g, if_pos ⟨by omega, by omega, by rw [h, g.2.2]; rfl⟩]
  · rw [if_neg g, if_neg, h]
    rintro ⟨h1, h2, h3⟩
    rw [h] at h3
    exact g ⟨by omega, hp, sn_im h3 hsc (by decide)⟩
theorem sf_bindY {ki s' bi : Nat → Int32} {K st sc : Nat → Nat} {n p s t : Nat} (w : sf_WF n K st) (hn : n ≤ 16) (hp : p < n) (hs : 1 ≤ s) (hst : st (n - 1) = s) (hk : K p < 2 ^ 31) (h : sf_YN n ki s' bi K st sc p) :
    K p = 1 → (sf_bind sc s n p = 0 ∧ sf_bb ki bi s n (nI n) p = -1) ∨ ∃ d, d + 1 < n + 1 ∧ sf_u K n 8 (d + 1) = 8 ∧ sf_u st n t d = sf_bind sc s n p ∧ sf_bb ki bi s n (nI n) p = nI (d + 1) := by
  intro k1
  have hk1 : ki p = 1 := by rw [h.1, k1]; rfl
  rcases h.2.2 k1 with ⟨g1, g2⟩ | ⟨d, g1, g2, g3, g4⟩
  · by_cases g : s ≤ p
    · right
      refine ⟨n - 1, by omega, ?_, ?_, ?_⟩
      · rw [show n - 1 + 1 = n from by omega, sf_us]
      · rw [sf_un' (by omega), hst]
        unfold sf_bind
        rw [if_pos ⟨g, hp, g1⟩]
      · rw [show n - 1 + 1 = n from by omega]
        unfold sf_bb
        rw [if_pos ⟨g, hp, hk1, g2⟩]
    · left
      unfold sf_bind sf_bb
      rw [if_neg (by omega), if_neg (by omega)]
      exact ⟨g1, g2⟩
  · have hpos : 1 ≤ st d := by
      rcases w (d + 1) g1 with ⟨k, _⟩ | ⟨_, k, _⟩ | ⟨_, _, _, h2, _⟩
      · omega
      · omega
      · rw [Nat.add_sub_cancel] at h2; exact h2
    right
    refine ⟨d, by omega, by rw [sf_un' (by omega)]; exact g2, ?_, ?_⟩
    · rw [sf_un' (by omega), g3]
      unfold sf_bind
      rw [if_neg (by omega)]
    · unfold sf_bb
      rw [if_neg, g4]
      rintro ⟨_, _, _, z⟩
      rw [g4] at z
      exact sn_neg1 (by omega) z
end
section
/-! the component's rows, node by node -/
def sf_XI (sc : Nat → Nat) (L : Nat → Int32 → List Int32) (ro : Nat → List Int32) (p : Nat) (vs ss ts : Nat → Int32) : Prop :=
  ts 0 = 1 ∧ vs 0 = 0 ∧ ∀ q, q < p → sf_XR vs ss ts (sf_E ro (sc q)) (L q) q
section XI
variable {n : Nat} {K st sc : Nat → Nat} {A B : Nat → Int32} {L : Nat → Int32 → List Int32} {ro : Nat → List Int32}
theorem sf_XI_E (hr : sf_Rw n sc L ro) {p s : Nat} {vs ss ts : Nat → Int32} (hp : p ≤ n) (h : sf_XI sc L ro p vs ss ts) (hs : s ≤ p) : ts s = nI (sf_E ro s).length ∧ sf_Hd vs (s * 256) (sf_E ro s) := by
  cases s with
  | zero =>
    refine ⟨h.1, fun i x hx => ?_⟩
    have hi := sf_lt hx
    have : i = 0 := by
      have : i < 1 := hi
      omega
    subst this
    have e : (0 : Int32) = x := Option.some.inj hx
    rw [← e]
    exact h.2.1
  | succ q =>
    have g := h.2.2 q (by omega)
    have e : sf_E ro (q + 1) = (sf_E ro (sc q)).flatMap (L q) := hr q (by omega)
    rw [e]
    exact ⟨g.1, g.2.1⟩
theorem sf_XI_fr {p : Nat} {vs ss ts vs' ss' ts' : Nat → Int32} (hB : ∀ q, q < p → ((sf_E ro (sc q)).flatMap (L q)).length ≤ 216) (hE : ∀ q, q < p → (sf_E ro (sc q)).length ≤ 216) (h : sf_XI sc L ro p vs ss ts) (e1 : ∀ j, j < (p + 1) * 256 → vs' j = vs j) (e2 : ∀ j, j < (p + 1) * 256 → ss' j = ss j) (e3 : ∀ j, j ≤ p → ts' j = ts j) : sf_XI sc L ro p vs' ss' ts' := by
  refine ⟨(e3 0 (by omega)).trans h.1, (e1 0 (by omega)).trans h.2.1, fun q hq => ?_⟩
  have b1 := hB q hq
  have b2 := hE q hq
  exact sf_XR_fr (h.2.2 q hq) (by omega) (by omega) (fun j hj => e1 j (by omega)) (fun j hj => e2 j (by omega)) (e3 _ (by omega))
theorem sf_XI_ap {p : Nat} {vs ss ts : Nat → Int32} {l l' : List Int32} {v : Int32} (hB : ∀ q, q < p → ((sf_E ro (sc q)).flatMap (L q)).length ≤ 216) (hE : ∀ q, q < p → (sf_E ro (sc q)).length ≤ 216) (h : sf_XI sc L ro p vs ss ts) : sf_XI sc L ro p (sf_ap vs ((p + 1) * 256) l) (sf_ap ss ((p + 1) * 256) l') (upd ts (p + 1) v) :=
  sf_XI_fr hB hE h (fun j hj => sf_ap_out (Or.inl hj)) (fun j hj => sf_ap_out (Or.inl hj)) (fun j hj => pk_un (by omega))
theorem sf_XI_step {p : Nat} {vs ss ts : Nat → Int32} (hB : ∀ q, q < p → ((sf_E ro (sc q)).flatMap (L q)).length ≤ 216) (hE : ∀ q, q < p → (sf_E ro (sc q)).length ≤ 216) (h : sf_XI sc L ro p vs ss ts) : sf_XI sc L ro (p + 1) (sf_ap vs ((p + 1) * 256) (sf_P (sf_E ro (sc p)) (L p) (sf_E ro (sc p)).length)) (sf_ap ss ((p + 1) * 256) (sf_S (sf_E ro (sc p)) (L p) (sf_E ro (sc p)).length)) (upd ts (p + 1) (nI (sf_P (sf_E ro (sc p)) (L p) (sf_E ro (sc p)).length).length)) := by
  have g := sf_XI_ap (l := sf_P (sf_E ro (sc p)) (L p) (sf_E ro (sc p)).length) (l' := sf_S (sf_E ro (sc p)) (L p) (sf_E ro (sc p)).length) (v := nI (sf_P (sf_E ro (sc p)) (L p) (sf_E ro (sc p)).length).length) hB hE h
  refine ⟨g.1, g.2.1, fun q hq => ?_⟩
  by_cases e : q = p
  · subst e
    refine ⟨?_, ?_, fun e he => ?_⟩
    · rw [pk_us, sf_P_all]
    · rw [sf_P_all]; exact sf_ap_hd _ _ _
    · exact sf_ap_in _ (sf_S_get _ _ _ _ he)
  · exact g.2.2 q (by omega)
theorem sf_XI_list {p q e : Nat} {x : Int32} {vs ss ts : Nat → Int32} (h : sf_XI sc L ro p vs ss ts) (hB : ((sf_E ro (sc q)).flatMap (L q)).length ≤ 216) (hq : q < p) (he : (sf_E ro (sc q))[e]? = some x) :
    ∃ s, s + (L q x).length ≤ 216 ∧ ss ((q + 1) * 256 + e) = nI s ∧ ss ((q + 1) * 256 + e + 1) = nI (s + (L q x).length) ∧ sf_Hd vs ((q + 1) * 256 + s) (L q x) := by
  obtain ⟨g1, g2, g3⟩ := sf_XR_list (h.2.2 q hq) he
  refine ⟨_, ?_, g1, g2, g3⟩
  have e2 := sf_P_split2 (f := L q) he
  rw [e2, List.length_append, List.length_append] at hB
  omega
theorem sf_XI_cat (hr : sf_Rw n sc L ro) {p c a e : Nat} {x : Int32} {vs ss ts : Nat → Int32} (hp : p ≤ n) (h : sf_XI sc L ro p vs ss ts) (hc : c < p) (ha : a < p) (hsc : sc c = a + 1) (hBa : ((sf_E ro (sc a)).flatMap (L a)).length ≤ 216) (hBc : ((sf_E ro (sc c)).flatMap (L c)).length ≤ 216) (he : (sf_E ro (sc a))[e]? = some x) :
    ∃ s0 s1 t, s0 ≤ 216 ∧ s1 ≤ 216 ∧ t + ((L a x).flatMap (L c)).length ≤ 216 ∧ ss ((a + 1) * 256 + e) = nI s0 ∧ ss ((a + 1) * 256 + e + 1) = nI s1 ∧ ss ((c + 1) * 256 + s0) = nI t ∧ ss ((c + 1) * 256 + s1) = nI (t + ((L a x).flatMap (L c)).length) ∧ sf_Hd vs ((c + 1) * 256 + t) ((L a x).flatMap (L c)) := by
  have xa := h.2.2 a ha
  have xc := h.2.2 c hc
  have eE : sf_E ro (sc c) = (sf_E ro (sc a)).flatMap (L a) := by
    rw [hsc]
    exact hr a (by omega)
  rw [eE] at xc hBc
  obtain ⟨g1, g2, g3⟩ := sf_XR_list xa he
  have l0 := sf_P_le (sf_E ro (sc a)) (L a) e
  have l1 := sf_P_le (sf_E ro (sc a)) (L a) (e + 1)
  have es := sf_P_s (f := L a) he
  have es' := congrArg List.length es
  rw [List.length_append] at es'
  have c0 := xc.2.2 _ l0
  have c1 := xc.2.2 _ l1
  rw [sf_P_cat] at c0 c1
  rw [sf_P_cat_s he, List.length_append] at c1
  have sp : ((sf_E ro (sc a)).flatMap (L a)).flatMap (L c) = (sf_P (sf_E ro (sc a)) (L a) e).flatMap (L c) ++ (L a x).flatMap (L c) ++ ((List.drop (e + 1) (sf_E ro (sc a))).flatMap (L a)).flatMap (L c) := by
    rw [sf_P_split2 (f := L a) he, List.flatMap_append, List.flatMap_append]
  have hd := xc.2.1
  rw [sp] at hd hBc
  rw [List.length_append, List.length_append] at hBc
  refine ⟨_, (sf_P (sf_E ro (sc a)) (L a) (e + 1)).length, _, by omega, by omega, ?_, g1, ?_, c0, ?_, sf_Hd_sub hd⟩
  · omega
  · rw [g2, es']
  · exact c1
end XI
end
section
/-! the component's primitives -/
theorem xu_ne {op c : Int32} (h : op < 0) (hc : ¬ c < 0) : ¬ op = c := fun e => hc (e ▸ h)
theorem xu_ne2 {op c m : Int32} (h : m < op) (hc : ¬ m < c) : ¬ op = c := fun e => hc (e ▸ h)
theorem xu_if {α : Type} {p : α → Prop} {c : Prop} [Decidable c] {a b : α} (h : p (if c then a else b)) : (c → p a) ∧ (¬ c → p b) := by
  refine ⟨fun z => ?_, fun z => ?_⟩
  · rw [if_pos z] at h; exact h
  · rw [if_neg z] at h; exact h
theorem xu_unary {post : Int32 → Prop} {op x k : Int32} (h : post (sf_un op k x)) : wpX_unary post () op x k := by
  have h8 : ∀ (_ : ¬ op = 0) (_ : ¬ op = 1) (_ : ¬ op = 2) (_ : ¬ op = 3) (_ : ¬ op = 4) (_ : ¬ op = 5) (_ : ¬ op = 6) (_ : ¬ op = 7), post (x * x) := by
    intro e0 e1 e2 e3 e4 e5 e6 e7
    unfold sf_un at h
    rw [if_neg e0, if_neg e1, if_neg e2, if_neg e3, if_neg e4, if_neg e5, if_neg e6, if_neg e7] at h
    exact h
  unfold sf_un at h
  refine br_c (fun hn => ?_) (fun hn => br_c (fun h7 => ?_) (fun h7 => ?_))
  · exact h8 (xu_ne hn (by decide)) (xu_ne hn (by decide)) (xu_ne hn (by decide)) (xu_ne hn (by decide)) (xu_ne hn (by decide)) (xu_ne hn (by decide)) (xu_ne hn (by decide)) (xu_ne hn (by decide))
  · exact h8 (xu_ne2 h7 (by decide)) (xu_ne2 h7 (by decide)) (xu_ne2 h7 (by decide)) (xu_ne2 h7 (by decide)) (xu_ne2 h7 (by decide)) (xu_ne2 h7 (by decide)) (xu_ne2 h7 (by decide)) (xu_ne2 h7 (by decide))
  · have g0 := xu_if h
    refine ⟨g0.1, fun e => ?_⟩
    have g1 := xu_if (g0.2 e)
    refine ⟨g1.1, fun e => ?_⟩
    have g2 := xu_if (g1.2 e)
    refine ⟨g2.1, fun e => ?_⟩
    have g3 := xu_if (g2.2 e)
    refine ⟨fun z => ⟨(xu_if (g3.1 z)).1, fun w => ⟨w, (xu_if (g3.1 z)).2 w⟩⟩, fun e => ?_⟩
    have g4 := xu_if (g3.2 e)
    refine ⟨fun z => ⟨(xu_if (g4.1 z)).1, fun w => ⟨w, (xu_if (g4.1 z)).2 w⟩⟩, fun e => ?_⟩
    have g5 := xu_if (g4.2 e)
    refine ⟨fun z => xu_if (g5.1 z), fun e => ?_⟩
    have g6 := xu_if (g5.2 e)
    refine ⟨fun z => xu_if (g6.1 z), fun e => ?_⟩
    have g7 := xu_if (g6.2 e)
    exact ⟨g7.1, fun _ => True.intro⟩
theorem xu_binary {post : Int32 → Prop} {op x k : Int32} (h : post (sf_bi op x k)) : wpX_binary post () op x k := by
  have h8 : ∀ (_ : ¬ op = 0) (_ : ¬ op = 1) (_ : ¬ op = 2) (_ : ¬ op = 3) (_ : ¬ op = 4) (_ : ¬ op = 5), post k := by
    intro e0 e1 e2 e3 e4 e5
    unfold sf_bi at h
    rw [if_neg e0, if_neg e1, if_neg e2, if_neg e3, if_neg e4, if_neg e5] at h
    exact h
  unfold sf_bi at h
  refine br_c (fun hn => ?_) (fun hn => br_c (fun h7 => ?_) (fun h7 => ?_))
  · exact h8 (xu_ne hn (by decide)) (xu_ne hn (by decide)) (xu_ne hn (by decide)) (xu_ne hn (by decide)) (xu_ne hn (by decide)) (xu_ne hn (by decide))
  · exact h8 (xu_ne2 h7 (by decide)) (xu_ne2 h7 (by decide)) (xu_ne2 h7 (by decide)) (xu_ne2 h7 (by decide)) (xu_ne2 h7 (by decide)) (xu_ne2 h7 (by decide))
  · have g0 := xu_if h
    refine ⟨g0.1, fun e => ?_⟩
    have g1 := xu_if (g0.2 e)
    refine ⟨g1.1, fun e => ?_⟩
    have g2 := xu_if (g1.2 e)
    refine ⟨g2.1, fun e => ?_⟩
    have g3 := xu_if (g2.2 e)
    refine ⟨fun z => xu_if (g3.1 z), fun e => ?_⟩
    have g4 := xu_if (g3.2 e)
    refine ⟨fun z => xu_if (g4.1 z), fun e => ?_⟩
    have g5 := xu_if (g4.2 e)
    exact ⟨g5.1, fun _ => True.intro⟩
def xu_b (b : Bool) : Int32 := if b = true then 1 else 0
theorem xu_dec {p : Int32 → Prop} {c : Prop} [Decidable c] (h : p (xu_b (decide c))) : (c → p 1) ∧ (¬ c → p 0) := by
  refine ⟨fun z => ?_, fun z => ?_⟩
  · rw [decide_eq_true z] at h; exact h
  · rw [decide_eq_false z] at h; exact h
theorem xu_decn {p : Int32 → Prop} {c : Prop} [Decidable c] (h : p (xu_b (decide (¬ c)))) : (c → p 0) ∧ (¬ c → p 1) := by
  refine ⟨fun z => ?_, fun z => ?_⟩
  · rw [decide_eq_false (fun g => g z)] at h; exact h
  · rw [decide_eq_true z] at h; exact h
theorem xu_dec2 {p : Int32 → Prop} {c d : Prop} [Decidable c] [Decidable d] (h : p (xu_b (decide (¬ c ∧ d)))) : (c → p 0) ∧ (¬ c → ¬ c ∧ ((d → p 1) ∧ (¬ d → p 0))) := by
  refine ⟨fun z => ?_, fun z => ⟨z, fun w => ?_, fun w => ?_⟩⟩
  · rw [decide_eq_false (fun g => g.1 z)] at h; exact h
  · rw [decide_eq_true ⟨z, w⟩] at h; exact h
  · rw [decide_eq_false (fun g => w g.2)] at h; exact h
theorem xu_holds {post : Int32 → Prop} {op x k : Int32} (h : post (xu_b (sf_pr op k x))) : wpX_holds post () op x k := by
  have h2 : ¬ (2 : Int32) = 0 := by decide
  have h8 : ∀ (_ : ¬ op = 0) (_ : ¬ op = 1) (_ : ¬ op = 2) (_ : ¬ op = 3) (_ : ¬ op = 4) (_ : ¬ op = 5), post (xu_b (decide (¬ k = 0 ∧ x - x / k * k = 0))) := by
    intro e0 e1 e2 e3 e4 e5
    unfold sf_pr at h
    rw [if_neg e0, if_neg e1, if_neg e2, if_neg e3, if_neg e4, if_neg e5] at h
    exact h
  unfold sf_pr at h
  refine br_c (fun hn => ?_) (fun hn => br_c (fun h7 => ?_) (fun h7 => ?_))
  · exact xu_dec2 (h8 (xu_ne hn (by decide)) (xu_ne hn (by decide)) (xu_ne hn (by decide)) (xu_ne hn (by decide)) (xu_ne hn (by decide)) (xu_ne hn (by decide)))
  · exact xu_dec2 (h8 (xu_ne2 h7 (by decide)) (xu_ne2 h7 (by decide)) (xu_ne2 h7 (by decide)) (xu_ne2 h7 (by decide)) (xu_ne2 h7 (by decide)) (xu_ne2 h7 (by decide)))
  · have g0 := xu_if (p := fun b => post (xu_b b)) h
    refine ⟨fun z => ⟨h2, xu_dec (g0.1 z)⟩, fun e => ?_⟩
    have g1 := xu_if (p := fun b => post (xu_b b)) (g0.2 e)
    refine ⟨fun z => ⟨h2, xu_decn (g1.1 z)⟩, fun e => ?_⟩
    have g2 := xu_if (p := fun b => post (xu_b b)) (g1.2 e)
    refine ⟨fun z => xu_decn (g2.1 z), fun e => ?_⟩
    have g3 := xu_if (p := fun b => post (xu_b b)) (g2.2 e)
    refine ⟨fun z => xu_decn (g3.1 z), fun e => ?_⟩
    have g4 := xu_if (p := fun b => post (xu_b b)) (g3.2 e)
    refine ⟨fun z => xu_dec (g4.1 z), fun e => ?_⟩
    have g5 := xu_if (p := fun b => post (xu_b b)) (g4.2 e)
    exact ⟨fun z => xu_decn (g5.1 z), fun _ => True.intro⟩
/-- clamp, where the answer is to be a natural -/
theorem xu_clamp {post : Int32 → Prop} {v : Int32} {m : Nat} (hm : m < 2 ^ 31) (h : post (nI (min v.toNatClampNeg m))) : wpX_clamp post () v 0 (nI m) := by
  refine br_c (fun h0 => ?_) (fun h0 => ?_)
  · obtain ⟨j, hj, rfl⟩ := nI_of (x := v) (Int32.not_lt.mpr h0)
    rw [nI_clamp hj] at h
    refine ⟨fun z => ?_, fun z => ?_⟩
    · have := (nI_leI hj hm).mp z
      rw [Nat.min_eq_left this] at h; exact h
    · have : ¬ j ≤ m := fun g => z ((nI_leI hj hm).mpr g)
      rw [Nat.min_eq_right (by omega)] at h; exact h
  · rw [sn_cl_neg (Int32.not_le.mp h0), Nat.min_eq_left (Nat.zero_le _)] at h
    exact h
section XP
variable {xh xn xd xr xl : Int32} {ki op ar lo so sz cc on vs ss ts re : Nat → Int32}
theorem xu_cell (q d : Nat) : nI q * 256 + nI d = nI (q * 256 + d) := by
  rw [show (256 : Int32) = nI 256 from rfl, pk_mul, nI_add]
theorem xu_append {post : St2 → Prop} {q d : Nat} {v : Int32} (hq : q < 17) (hd : d < 216) (ht : ts q = nI d) (h : post (xh, xn, xd, xr, xl, ki, op, ar, lo, so, sz, cc, on, upd vs (q * 256 + d) v, ss, upd ts q (nI (d + 1)), re)) : wpX_append post (xh, xn, xd, xr, xl, ki, op, ar, lo, so, sz, cc, on, vs, ss, ts, re) (nI q) v := by
  have e1 : (nI q).toNatClampNeg = q := nI_clamp (by omega)
  have e2 := xu_cell q d
  have e3 : (nI (q * 256 + d)).toNatClampNeg = q * 256 + d := nI_clamp (by omega)
  refine And.intro (vp_in_nI hq (by decide)) (nm_r (e' := nI d) (by rw [e1, ht]) (br_f (nI_ge (b := 216) hd (by decide)) ⟨pk_in (q * 256 + d) 4352 (by omega) e2, nm_r (e' := upd vs (q * 256 + d) v) (by rw [e2, e3]) ⟨vp_in_nI hq (by decide), nm_r (e' := upd ts q (nI (d + 1))) (by rw [e1, nI_1]) h⟩⟩))
theorem xu_run_l {post : St2 → Prop} {q d len : Nat} {a : Int32} (hq : q < 17) (hd : d + len ≤ 216) (h : post (xh, xn, xd, xr, xl, ki, op, ar, lo, so, sz, cc, on, sf_ap vs (q * 256 + d) (sf_run a len), ss, upd ts q (nI (d + len)), re)) :
    ∀ k i, i + k = len → wX_addRun_3 post (nI q) a (nI len) (k + 1) (nI i) xh xn xd xr xl ki op ar lo so sz cc on (sf_ap vs (q * 256 + d) (sf_run a i)) ss (upd ts q (nI (d + i))) re := by
  intro k
  induction k with
  | zero =>
    intro i hi
    have : i = len := by omega
    subst this
    exact br_t (nI_le (Nat.le_refl _) (by omega)) h
  | succ k ih =>
    intro i hi
    refine br_f (nI_ge (by omega) (by omega)) (xu_append hq (d := d + i) (by omega) pk_us (nm_r (nI_1 i) ?_))
    have e := sf_ap_snoc vs (q * 256 + d) (sf_run a i) (a + nI i)
    rw [sf_run_len, Nat.add_assoc] at e
    rw [e, sn_upd_upd]
    exact ih (i + 1) (by omega)
theorem xu_run {post : St2 → Prop} {q d len : Nat} {a : Int32} (hq : q < 17) (hd : d + len ≤ 216) (ht : ts q = nI d) (h : post (xh, xn, xd, xr, xl, ki, op, ar, lo, so, sz, cc, on, sf_ap vs (q * 256 + d) (sf_run a len), ss, upd ts q (nI (d + len)), re)) : wpX_addRun post (xh, xn, xd, xr, xl, ki, op, ar, lo, so, sz, cc, on, vs, ss, ts, re) (nI q) a (nI len) := by
  refine ⟨len + 1, ?_⟩
  have := xu_run_l hq hd h len 0 (by omega)
  rw [show sf_run a 0 = [] from rfl, sf_ap_nil, Nat.add_zero d, sn_upd_self ht] at this
  exact this
theorem xu_inner {post : St2 → Prop} {q d s e b : Nat} {x : Int32} (hq : q < 17) (hs : s < 17) (he : e < 256) (hb : b ≤ 6) (hsc : so q = nI s) (hx : vs (s * 256 + e) = x) (hop : op q = nI b) (hd : d + sf_il (nI b) x ≤ 216) (ht : ts q = nI d)
    (h : post (xh, xn, xd, xr, xl, ki, op, ar, lo, so, sz, cc, on, sf_ap vs (q * 256 + d) (sf_run (x + ar q) (sf_il (nI b) x)), ss, upd ts q (nI (d + sf_il (nI b) x)), re)) : wpX_addInner post (xh, xn, xd, xr, xl, ki, op, ar, lo, so, sz, cc, on, vs, ss, ts, re) (nI q) (nI e) := by
  have e1 : (nI q).toNatClampNeg = q := nI_clamp (by omega)
  have hin : vp_in (nI q) 17 := vp_in_nI hq (by decide)
  have e2 := xu_cell s e
  have e3 : (nI (s * 256 + e)).toNatClampNeg = s * 256 + e := nI_clamp (by omega)
  have hz : ¬ nI b + 1 = 0 := by rw [nI_1]; exact nI_ne0 (by omega) (by omega)
  have hl := (sf_il_b hb x).2
  refine And.intro hin (And.intro (pk_in (s * 256 + e) 4352 (by omega) (by rw [e1, hsc, e2])) (nm_r (e' := x) (by rw [e1, hsc, e2, e3, hx]) ⟨hin, nm_r (e' := nI b + 1) (by rw [e1, hop]) ⟨hz, hz, nm_r (e' := nI (sf_il (nI b) x)) hl ⟨hin, ?_⟩⟩⟩))
  rw [e1]
  exact xu_run hq hd ht h
end XP
end
section
/-! the component's adders: each writes one list behind the row -/
theorem sf_ap_s2 {a : Nat → Int32} {b d i : Nat} {l m : List Int32} {v : Int32} (hl : l.length = i) (hm : m = l ++ [v]) : upd (sf_ap a (b + d) l) (b + (d + i)) v = sf_ap a (b + d) m := by
  subst hl hm
  rw [← Nat.add_assoc]
  exact sf_ap_snoc a (b + d) l v
theorem sf_tl {l : List Int32} {i : Nat} (h : i ≤ l.length) : (l.take i).length = i := by
  rw [List.length_take]; omega
theorem sf_take_min (l : List Int32) (n : Nat) : l.take (min n l.length) = l.take n := by
  by_cases h : n ≤ l.length
  · rw [Nat.min_eq_left h]
  · rw [Nat.min_eq_right (by omega), sf_take_all, List.take_of_length_le (by omega)]
theorem sf_drop_min (l : List Int32) (n : Nat) : l.drop (min n l.length) = l.drop n := by
  by_cases h : n ≤ l.length
  · rw [Nat.min_eq_left h]
  · rw [Nat.min_eq_right (by omega), List.drop_of_length_le (Nat.le_refl _), List.drop_of_length_le (by omega)]
theorem sf_Hd_take {a : Nat → Int32} {b n : Nat} {l : List Int32} (h : sf_Hd a b l) : sf_Hd a b (l.take n) := by
  intro i x hx
  have hi := sf_lt hx
  rw [List.length_take] at hi
  rw [List.getElem?_take_of_lt (by omega)] at hx
  exact h i x hx
theorem sf_Hd_drop {a : Nat → Int32} {b n : Nat} {l : List Int32} (h : sf_Hd a b l) : sf_Hd a (b + n) (l.drop n) := by
  intro i x hx
  rw [List.getElem?_drop] at hx
  rw [Nat.add_assoc]
  exact h (n + i) x hx
section XA
variable {xh xn xd xr xl : Int32} {ki op ar lo so sz cc on vs ss ts re : Nat → Int32}
theorem xu_map_l {post : St2 → Prop} {c d s : Nat} {l : List Int32} (hq : c + 1 < 17) (hs : s + l.length ≤ 216) (hd : d + l.length ≤ 216) (hl : sf_Hd vs (c * 256 + s) l)
    (h : post (xh, xn, xd, xr, xl, ki, op, ar, lo, so, sz, cc, on, sf_ap vs ((c + 1) * 256 + d) (l.map (sf_un (op (c + 1)) (ar (c + 1)))), ss, upd ts (c + 1) (nI (d + l.length)), re)) :
    ∀ k i, i + k = l.length → wX_addMapped_30 post (nI (c + 1)) (nI (c * 256)) (nI (s + l.length)) (k + 1) (nI (s + i)) xh xn xd xr xl ki op ar lo so sz cc on (sf_ap vs ((c + 1) * 256 + d) ((l.take i).map (sf_un (op (c + 1)) (ar (c + 1))))) ss (upd ts (c + 1) (nI (d + i))) re := by
  intro k
  induction k with
  | zero =>
    intro i hi
    have : i = l.length := by omega
    subst this
    rw [sf_take_all]
    exact br_t (nI_le (Nat.le_refl _) (by omega)) h
  | succ k ih =>
    intro i hi
    obtain ⟨v, hv⟩ := sf_ex (l := l) (i := i) (by omega)
    have hin : vp_in (nI (c + 1)) 17 := vp_in_nI hq (by decide)
    have e1 : (nI (c + 1)).toNatClampNeg = c + 1 := nI_clamp (by omega)
    have e2 : nI (c * 256) + nI (s + i) = nI (c * 256 + (s + i)) := nI_add _ _
    have e3 : (nI (c * 256 + (s + i))).toNatClampNeg = c * 256 + (s + i) := nI_clamp (by omega)
    have e4 : sf_ap vs ((c + 1) * 256 + d) ((l.take i).map (sf_un (op (c + 1)) (ar (c + 1)))) (c * 256 + (s + i)) = v := by
      rw [sf_ap_out (by omega), ← Nat.add_assoc]; exact hl i v hv
    refine br_f (nI_ge (by omega) (by omega)) ⟨hin, pk_in (c * 256 + (s + i)) 4352 (by omega) e2, hin, ?_⟩
    rw [e1, e2, e3, e4]
    refine xu_unary (xu_append hq (d := d + i) (by omega) pk_us (nm_r (nI_1 (s + i)) ?_))
    rw [sf_ap_s2 (i := i) (m := (l.take (i + 1)).map (sf_un (op (c + 1)) (ar (c + 1)))) (by rw [List.length_map, sf_tl (by omega)]) (by rw [sf_take_s hv, List.map_append]; rfl), sn_upd_upd]
    exact ih (i + 1) (by omega)
theorem xu_map {post : St2 → Prop} {c d s e : Nat} {l : List Int32} (hq : c + 1 < 17) (he : e + 1 < 256) (hs : s + l.length ≤ 216) (hd : d + l.length ≤ 216) (h0 : ss (c * 256 + e) = nI s) (h1 : ss (c * 256 + e + 1) = nI (s + l.length)) (hl : sf_Hd vs (c * 256 + s) l) (ht : ts (c + 1) = nI d)
    (h : post (xh, xn, xd, xr, xl, ki, op, ar, lo, so, sz, cc, on, sf_ap vs ((c + 1) * 256 + d) (l.map (sf_un (op (c + 1)) (ar (c + 1)))), ss, upd ts (c + 1) (nI (d + l.length)), re)) : wpX_addMapped post (xh, xn, xd, xr, xl, ki, op, ar, lo, so, sz, cc, on, vs, ss, ts, re) (nI (c + 1)) (nI e) := by
  have e1 : (nI (c + 1) - 1) * 256 = nI (c * 256) := by rw [nI_pred, show (256 : Int32) = nI 256 from rfl, pk_mul]
  have e2 : nI (c * 256) + nI e = nI (c * 256 + e) := nI_add _ _
  have e3 : (nI (c * 256 + e)).toNatClampNeg = c * 256 + e := nI_clamp (by omega)
  have e4 : (nI (c * 256 + e + 1)).toNatClampNeg = c * 256 + e + 1 := nI_clamp (by omega)
  refine nm_r e1 ⟨pk_in (c * 256 + e + 1) 4352 (by omega) (by rw [e2, nI_1]), nm_r (by rw [e2, nI_1, e4, h1]) ⟨pk_in (c * 256 + e) 4352 (by omega) e2, nm_r (by rw [e2, e3, h0]) ⟨l.length + 1, ?_⟩⟩⟩
  have := xu_map_l hq hs hd hl h l.length 0 (by omega)
  rw [List.take_zero, List.map_nil, sf_ap_nil, Nat.add_zero s, Nat.add_zero d, sn_upd_self ht] at this
  exact this
theorem xu_filter_l {post : St2 → Prop} {c d s : Nat} {l : List Int32} (hq : c + 1 < 17) (hs : s + l.length ≤ 216) (hd : d + (l.filter (sf_pr (op (c + 1)) (ar (c + 1)))).length ≤ 216) (hl : sf_Hd vs (c * 256 + s) l)
    (h : post (xh, xn, xd, xr, xl, ki, op, ar, lo, so, sz, cc, on, sf_ap vs ((c + 1) * 256 + d) (l.filter (sf_pr (op (c + 1)) (ar (c + 1)))), ss, upd ts (c + 1) (nI (d + (l.filter (sf_pr (op (c + 1)) (ar (c + 1)))).length)), re)) :
    ∀ k i, i + k = l.length → wX_addFiltered_30 post (nI (c + 1)) (nI (c * 256)) (nI (s + l.length)) (k + 1) (nI (s + i)) xh xn xd xr xl ki op ar lo so sz cc on (sf_ap vs ((c + 1) * 256 + d) ((l.take i).filter (sf_pr (op (c + 1)) (ar (c + 1))))) ss (upd ts (c + 1) (nI (d + ((l.take i).filter (sf_pr (op (c + 1)) (ar (c + 1)))).length))) re := by
  intro k
  induction k with
  | zero =>
    intro i hi
    have : i = l.length := by omega
    subst this
    rw [sf_take_all]
    exact br_t (nI_le (Nat.le_refl _) (by omega)) h
  | succ k ih =>
    intro i hi
    obtain ⟨v, hv⟩ := sf_ex (l := l) (i := i) (by omega)
    have hin : vp_in (nI (c + 1)) 17 := vp_in_nI hq (by decide)
    have e1 : (nI (c + 1)).toNatClampNeg = c + 1 := nI_clamp (by omega)
    have e2 : nI (c * 256) + nI (s + i) = nI (c * 256 + (s + i)) := nI_add _ _
    have e3 : (nI (c * 256 + (s + i))).toNatClampNeg = c * 256 + (s + i) := nI_clamp (by omega)
    have e4 : sf_ap vs ((c + 1) * 256 + d) ((l.take i).filter (sf_pr (op (c + 1)) (ar (c + 1)))) (c * 256 + (s + i)) = v := by
      rw [sf_ap_out (by omega), ← Nat.add_assoc]; exact hl i v hv
    have hvi : vp_in (nI (c * 256) + nI (s + i)) 4352 := pk_in (c * 256 + (s + i)) 4352 (by omega) e2
    have es : (l.take (i + 1)).filter (sf_pr (op (c + 1)) (ar (c + 1))) = (l.take i).filter (sf_pr (op (c + 1)) (ar (c + 1))) ++ (if sf_pr (op (c + 1)) (ar (c + 1)) v = true then [v] else []) := by
      rw [sf_take_s hv, List.filter_append]
      by_cases hp : sf_pr (op (c + 1)) (ar (c + 1)) v = true
      · rw [if_pos hp, List.filter_cons_of_pos hp]; rfl
      · rw [if_neg hp, List.filter_cons_of_neg hp]; rfl
    have hle : ((l.take (i + 1)).filter (sf_pr (op (c + 1)) (ar (c + 1)))).length ≤ (l.filter (sf_pr (op (c + 1)) (ar (c + 1)))).length := by
      have := congrArg (fun m => (m.filter (sf_pr (op (c + 1)) (ar (c + 1)))).length) (List.take_append_drop (i + 1) l)
      simp only [List.filter_append, List.length_append] at this
      omega
    refine br_f (nI_ge (by omega) (by omega)) ⟨hin, hvi, hin, ?_⟩
    have ihs := ih (i + 1) (by omega)
    by_cases hp : sf_pr (op (c + 1)) (ar (c + 1)) v = true
    · rw [if_pos hp] at es
      have el : ((l.take (i + 1)).filter (sf_pr (op (c + 1)) (ar (c + 1)))).length = ((l.take i).filter (sf_pr (op (c + 1)) (ar (c + 1)))).length + 1 := by
        rw [es, List.length_append]; rfl
      rw [e1, e2, e3, e4]
      refine xu_holds ?_
      rw [hp]
      refine br_f (show ¬ xu_b true = 0 from by decide) ⟨e2 ▸ hvi, xu_append hq (d := d + ((l.take i).filter (sf_pr (op (c + 1)) (ar (c + 1)))).length) (by omega) pk_us (nm_r (nI_1 (s + i)) ?_)⟩
      rw [sf_ap_s2 rfl es, sn_upd_upd]
      rw [el] at ihs
      exact ihs
    · rw [if_neg hp, List.append_nil] at es
      rw [e1, e2, e3, e4]
      refine xu_holds ?_
      rw [Bool.eq_false_iff.mpr hp]
      refine br_t (show xu_b false = 0 from by decide) (nm_r (nI_1 (s + i)) ?_)
      rw [es] at ihs
      exact ihs
theorem xu_filter {post : St2 → Prop} {c d s e : Nat} {l : List Int32} (hq : c + 1 < 17) (he : e + 1 < 256) (hs : s + l.length ≤ 216) (hd : d + (l.filter (sf_pr (op (c + 1)) (ar (c + 1)))).length ≤ 216) (h0 : ss (c * 256 + e) = nI s) (h1 : ss (c * 256 + e + 1) = nI (s + l.length)) (hl : sf_Hd vs (c * 256 + s) l) (ht : ts (c + 1) = nI d)
    (h : post (xh, xn, xd, xr, xl, ki, op, ar, lo, so, sz, cc, on, sf_ap vs ((c + 1) * 256 + d) (l.filter (sf_pr (op (c + 1)) (ar (c + 1)))), ss, upd ts (c + 1) (nI (d + (l.filter (sf_pr (op (c + 1)) (ar (c + 1)))).length)), re)) : wpX_addFiltered post (xh, xn, xd, xr, xl, ki, op, ar, lo, so, sz, cc, on, vs, ss, ts, re) (nI (c + 1)) (nI e) := by
  have e1 : (nI (c + 1) - 1) * 256 = nI (c * 256) := by rw [nI_pred, show (256 : Int32) = nI 256 from rfl, pk_mul]
  have e2 : nI (c * 256) + nI e = nI (c * 256 + e) := nI_add _ _
  have e3 : (nI (c * 256 + e)).toNatClampNeg = c * 256 + e := nI_clamp (by omega)
  have e4 : (nI (c * 256 + e + 1)).toNatClampNeg = c * 256 + e + 1 := nI_clamp (by omega)
  refine nm_r e1 ⟨pk_in (c * 256 + e + 1) 4352 (by omega) (by rw [e2, nI_1]), nm_r (by rw [e2, nI_1, e4, h1]) ⟨pk_in (c * 256 + e) 4352 (by omega) e2, nm_r (by rw [e2, e3, h0]) ⟨l.length + 1, ?_⟩⟩⟩
  have := xu_filter_l hq hs hd hl h l.length 0 (by omega)
  rw [List.take_zero, List.filter_nil, sf_ap_nil, Nat.add_zero s, List.length_nil, Nat.add_zero d, sn_upd_self ht] at this
  exact this
theorem xu_slice_l {post : St2 → Prop} {c d s : Nat} {l : List Int32} (hq : c + 1 < 17) (hs : s + l.length ≤ 216) (hd : d + l.length ≤ 216) (hl : sf_Hd vs (c * 256 + s) l)
    (h : post (xh, xn, xd, xr, xl, ki, op, ar, lo, so, sz, cc, on, sf_ap vs ((c + 1) * 256 + d) l, ss, upd ts (c + 1) (nI (d + l.length)), re)) :
    ∀ k i, i + k = l.length → wX_addSlice_12 post (nI (c + 1)) (nI (s + l.length)) (nI (c * 256)) (k + 1) (nI (s + i)) xh xn xd xr xl ki op ar lo so sz cc on (sf_ap vs ((c + 1) * 256 + d) (l.take i)) ss (upd ts (c + 1) (nI (d + i))) re := by
  intro k
  induction k with
  | zero =>
    intro i hi
    have : i = l.length := by omega
    subst this
    rw [sf_take_all]
    exact br_t (nI_le (Nat.le_refl _) (by omega)) h
  | succ k ih =>
    intro i hi
    obtain ⟨v, hv⟩ := sf_ex (l := l) (i := i) (by omega)
    have e2 : nI (c * 256) + nI (s + i) = nI (c * 256 + (s + i)) := nI_add _ _
    have e3 : (nI (c * 256 + (s + i))).toNatClampNeg = c * 256 + (s + i) := nI_clamp (by omega)
    have e4 : sf_ap vs ((c + 1) * 256 + d) (l.take i) (c * 256 + (s + i)) = v := by
      rw [sf_ap_out (by omega), ← Nat.add_assoc]; exact hl i v hv
    refine br_f (nI_ge (by omega) (by omega)) ⟨pk_in (c * 256 + (s + i)) 4352 (by omega) e2, ?_⟩
    rw [e2, e3, e4]
    refine xu_append hq (d := d + i) (by omega) pk_us (nm_r (nI_1 (s + i)) ?_)
    rw [sf_ap_s2 (i := i) (m := l.take (i + 1)) (sf_tl (by omega)) (sf_take_s hv), sn_upd_upd]
    exact ih (i + 1) (by omega)
theorem xu_slice {post : St2 → Prop} {c d s t : Nat} {l : List Int32} (hq : c + 1 < 17) (hs : s + l.length ≤ 216) (et : t = s + l.length) (hd : d + l.length ≤ 216) (hl : sf_Hd vs (c * 256 + s) l) (ht : ts (c + 1) = nI d)
    (h : post (xh, xn, xd, xr, xl, ki, op, ar, lo, so, sz, cc, on, sf_ap vs ((c + 1) * 256 + d) l, ss, upd ts (c + 1) (nI (d + l.length)), re)) : wpX_addSlice post (xh, xn, xd, xr, xl, ki, op, ar, lo, so, sz, cc, on, vs, ss, ts, re) (nI (c + 1)) (nI s) (nI t) := by
  subst et
  have e1 : (nI (c + 1) - 1) * 256 = nI (c * 256) := by rw [nI_pred, show (256 : Int32) = nI 256 from rfl, pk_mul]
  refine nm_r e1 ⟨l.length + 1, ?_⟩
  have := xu_slice_l hq hs hd hl h l.length 0 (by omega)
  rw [List.take_zero, sf_ap_nil, Nat.add_zero s, Nat.add_zero d, sn_upd_self ht] at this
  exact this
theorem xu_take {post : St2 → Prop} {c d s e : Nat} {l : List Int32} (hq : c + 1 < 17) (he : e + 1 < 256) (hs : s + l.length ≤ 216) (hd : d + (l.take (ar (c + 1)).toNatClampNeg).length ≤ 216) (h0 : ss (c * 256 + e) = nI s) (h1 : ss (c * 256 + e + 1) = nI (s + l.length)) (hl : sf_Hd vs (c * 256 + s) l) (ht : ts (c + 1) = nI d)
    (h : post (xh, xn, xd, xr, xl, ki, op, ar, lo, so, sz, cc, on, sf_ap vs ((c + 1) * 256 + d) (l.take (ar (c + 1)).toNatClampNeg), ss, upd ts (c + 1) (nI (d + (l.take (ar (c + 1)).toNatClampNeg).length)), re)) : wpX_addTaken post (xh, xn, xd, xr, xl, ki, op, ar, lo, so, sz, cc, on, vs, ss, ts, re) (nI (c + 1)) (nI e) := by
  have e1 : (nI (c + 1) - 1) * 256 = nI (c * 256) := by rw [nI_pred, show (256 : Int32) = nI 256 from rfl, pk_mul]
  have e2 : nI (c * 256) + nI e = nI (c * 256 + e) := nI_add _ _
  have e3 : (nI (c * 256 + e)).toNatClampNeg = c * 256 + e := nI_clamp (by omega)
  have e4 : (nI (c * 256 + e + 1)).toNatClampNeg = c * 256 + e + 1 := nI_clamp (by omega)
  have e5 : (nI (c + 1)).toNatClampNeg = c + 1 := nI_clamp (by omega)
  have e6 : nI (s + l.length) - nI s = nI l.length := sn_sub (by omega)
  refine nm_r e1 ⟨pk_in (c * 256 + e) 4352 (by omega) e2, nm_r (e' := nI s) (by rw [e2, e3, h0]) ⟨vp_in_nI hq (by decide), pk_in (c * 256 + e + 1) 4352 (by omega) (by rw [e2, nI_1]), ?_⟩⟩
  rw [e2, nI_1, e4, h1, e5, e6]
  refine xu_clamp (by omega) ?_
  rw [nI_add]
  rw [← sf_take_min] at h hd
  have hml : (l.take (min (ar (c + 1)).toNatClampNeg l.length)).length = min (ar (c + 1)).toNatClampNeg l.length := sf_tl (Nat.min_le_right _ _)
  have hmm := Nat.min_le_right (ar (c + 1)).toNatClampNeg l.length
  exact xu_slice hq (l := l.take (min (ar (c + 1)).toNatClampNeg l.length)) (by omega) (by rw [hml]) hd (sf_Hd_take hl) ht h
theorem xu_drop {post : St2 → Prop} {c d s e : Nat} {l : List Int32} (hq : c + 1 < 17) (he : e + 1 < 256) (hs : s + l.length ≤ 216) (hd : d + (l.drop (ar (c + 1)).toNatClampNeg).length ≤ 216) (h0 : ss (c * 256 + e) = nI s) (h1 : ss (c * 256 + e + 1) = nI (s + l.length)) (hl : sf_Hd vs (c * 256 + s) l) (ht : ts (c + 1) = nI d)
    (h : post (xh, xn, xd, xr, xl, ki, op, ar, lo, so, sz, cc, on, sf_ap vs ((c + 1) * 256 + d) (l.drop (ar (c + 1)).toNatClampNeg), ss, upd ts (c + 1) (nI (d + (l.drop (ar (c + 1)).toNatClampNeg).length)), re)) : wpX_addDropped post (xh, xn, xd, xr, xl, ki, op, ar, lo, so, sz, cc, on, vs, ss, ts, re) (nI (c + 1)) (nI e) := by
  have e1 : (nI (c + 1) - 1) * 256 = nI (c * 256) := by rw [nI_pred, show (256 : Int32) = nI 256 from rfl, pk_mul]
  have e2 : nI (c * 256) + nI e = nI (c * 256 + e) := nI_add _ _
  have e3 : (nI (c * 256 + e)).toNatClampNeg = c * 256 + e := nI_clamp (by omega)
  have e4 : (nI (c * 256 + e + 1)).toNatClampNeg = c * 256 + e + 1 := nI_clamp (by omega)
  have e5 : (nI (c + 1)).toNatClampNeg = c + 1 := nI_clamp (by omega)
  have e6 : nI (s + l.length) - nI s = nI l.length := sn_sub (by omega)
  refine nm_r e1 ⟨pk_in (c * 256 + e) 4352 (by omega) e2, nm_r (e' := nI s) (by rw [e2, e3, h0]) ⟨pk_in (c * 256 + e + 1) 4352 (by omega) (by rw [e2, nI_1]), nm_r (e' := nI (s + l.length)) (by rw [e2, nI_1, e4, h1]) ⟨vp_in_nI hq (by decide), ?_⟩⟩⟩
  rw [e5, e6]
  refine xu_clamp (by omega) ?_
  rw [nI_add]
  rw [← sf_drop_min] at h hd
  have hml : (l.drop (min (ar (c + 1)).toNatClampNeg l.length)).length = l.length - min (ar (c + 1)).toNatClampNeg l.length := List.length_drop
  have hmm := Nat.min_le_right (ar (c + 1)).toNatClampNeg l.length
  refine xu_slice hq (l := l.drop (min (ar (c + 1)).toNatClampNeg l.length)) (by omega) (by omega) hd ?_ ht h
  rw [← Nat.add_assoc]
  exact sf_Hd_drop hl
theorem xu_scan_l {post : St2 → Prop} {c d s : Nat} {a : Int32} {l : List Int32} (hq : c + 1 < 17) (hs : s + l.length ≤ 216) (hd : d + l.length ≤ 216) (hl : sf_Hd vs (c * 256 + s) l)
    (h : post (xh, xn, xd, xr, xl, ki, op, ar, lo, so, sz, cc, on, sf_ap vs ((c + 1) * 256 + d) (sf_scan (op (c + 1)) a l), ss, upd ts (c + 1) (nI (d + l.length)), re)) :
    ∀ k i, i + k = l.length → wX_addScanned_38 post (nI (c + 1)) (nI (c * 256)) (nI (s + l.length)) (k + 1) (sf_fold (op (c + 1)) a (l.take i)) (nI (s + i)) xh xn xd xr xl ki op ar lo so sz cc on (sf_ap vs ((c + 1) * 256 + d) (sf_scan (op (c + 1)) a (l.take i))) ss (upd ts (c + 1) (nI (d + i))) re := by
  intro k
  induction k with
  | zero =>
    intro i hi
    have : i = l.length := by omega
    subst this
    rw [sf_take_all]
    exact br_t (nI_le (Nat.le_refl _) (by omega)) h
  | succ k ih =>
    intro i hi
    obtain ⟨v, hv⟩ := sf_ex (l := l) (i := i) (by omega)
    have hin : vp_in (nI (c + 1)) 17 := vp_in_nI hq (by decide)
    have e1 : (nI (c + 1)).toNatClampNeg = c + 1 := nI_clamp (by omega)
    have e2 : nI (c * 256) + nI (s + i) = nI (c * 256 + (s + i)) := nI_add _ _
    have e3 : (nI (c * 256 + (s + i))).toNatClampNeg = c * 256 + (s + i) := nI_clamp (by omega)
    have e4 : sf_ap vs ((c + 1) * 256 + d) (sf_scan (op (c + 1)) a (l.take i)) (c * 256 + (s + i)) = v := by
      rw [sf_ap_out (by omega), ← Nat.add_assoc]; exact hl i v hv
    refine br_f (nI_ge (by omega) (by omega)) ⟨hin, pk_in (c * 256 + (s + i)) 4352 (by omega) e2, ?_⟩
    rw [e1, e2, e3, e4]
    refine xu_binary (xu_append hq (d := d + i) (by omega) pk_us (nm_r (nI_1 (s + i)) ?_))
    rw [sf_ap_s2 (i := i) (m := sf_scan (op (c + 1)) a (l.take (i + 1))) (by rw [sf_scan_len, sf_tl (by omega)]) (by rw [sf_take_s hv, sf_scan_snoc]), sn_upd_upd]
    have := ih (i + 1) (by omega)
    rw [show sf_fold (op (c + 1)) a (l.take (i + 1)) = sf_bi (op (c + 1)) (sf_fold (op (c + 1)) a (l.take i)) v from by rw [sf_take_s hv, sf_fold_snoc]] at this
    exact this
theorem xu_scan {post : St2 → Prop} {c d s e : Nat} {l : List Int32} (hq : c + 1 < 17) (he : e + 1 < 256) (hs : s + l.length ≤ 216) (hd : d + l.length ≤ 216) (h0 : ss (c * 256 + e) = nI s) (h1 : ss (c * 256 + e + 1) = nI (s + l.length)) (hl : sf_Hd vs (c * 256 + s) l) (ht : ts (c + 1) = nI d)
    (h : post (xh, xn, xd, xr, xl, ki, op, ar, lo, so, sz, cc, on, sf_ap vs ((c + 1) * 256 + d) (sf_scan (op (c + 1)) (ar (c + 1)) l), ss, upd ts (c + 1) (nI (d + l.length)), re)) : wpX_addScanned post (xh, xn, xd, xr, xl, ki, op, ar, lo, so, sz, cc, on, vs, ss, ts, re) (nI (c + 1)) (nI e) := by
  have e1 : (nI (c + 1) - 1) * 256 = nI (c * 256) := by rw [nI_pred, show (256 : Int32) = nI 256 from rfl, pk_mul]
  have e2 : nI (c * 256) + nI e = nI (c * 256 + e) := nI_add _ _
  have e3 : (nI (c * 256 + e)).toNatClampNeg = c * 256 + e := nI_clamp (by omega)
  have e4 : (nI (c * 256 + e + 1)).toNatClampNeg = c * 256 + e + 1 := nI_clamp (by omega)
  have e5 : (nI (c + 1)).toNatClampNeg = c + 1 := nI_clamp (by omega)
  refine nm_r e1 ⟨pk_in (c * 256 + e + 1) 4352 (by omega) (by rw [e2, nI_1]), nm_r (by rw [e2, nI_1, e4, h1]) ⟨vp_in_nI hq (by decide), nm_r (by rw [e5]) ⟨pk_in (c * 256 + e) 4352 (by omega) e2, nm_r (by rw [e2, e3, h0]) ⟨l.length + 1, ?_⟩⟩⟩⟩
  have := xu_scan_l hq hs hd hl h l.length 0 (by omega)
  rw [List.take_zero, show sf_fold (op (c + 1)) (ar (c + 1)) [] = ar (c + 1) from rfl, show sf_scan (op (c + 1)) (ar (c + 1)) [] = [] from rfl, sf_ap_nil, Nat.add_zero s, Nat.add_zero d, sn_upd_self ht] at this
  exact this
theorem xu_zip_l {post : St2 → Prop} {a c d s t n : Nat} {m l : List Int32} (hq : c + 1 < 17) (ha : a < c + 1) (hs : s + m.length ≤ 216) (hs' : t + l.length ≤ 216) (hn : n = min m.length l.length) (hd : d + n ≤ 216) (hm : sf_Hd vs (a * 256 + s) m) (hl : sf_Hd vs (c * 256 + t) l)
    (h : post (xh, xn, xd, xr, xl, ki, op, ar, lo, so, sz, cc, on, sf_ap vs ((c + 1) * 256 + d) (List.zipWith (sf_bi (op (c + 1))) m l), ss, upd ts (c + 1) (nI (d + n)), re)) :
    ∀ k i, i + k = n → wX_addZipped_91 post (nI (c + 1)) (nI (a * 256)) (nI (c * 256)) (nI s) (nI t) (nI n) (k + 1) (nI i) xh xn xd xr xl ki op ar lo so sz cc on (sf_ap vs ((c + 1) * 256 + d) (List.zipWith (sf_bi (op (c + 1))) (m.take i) (l.take i))) ss (upd ts (c + 1) (nI (d + i))) re := by
  have h1 : n ≤ m.length := by omega
  have h2 : n ≤ l.length := by omega
  intro k
  induction k with
  | zero =>
    intro i hi
    have : i = n := by omega
    subst this
    have ez : List.zipWith (sf_bi (op (c + 1))) (m.take i) (l.take i) = List.zipWith (sf_bi (op (c + 1))) m l := by
      rw [← List.take_zipWith, List.take_of_length_le (by rw [List.length_zipWith]; omega)]
    rw [ez]
    exact br_t (nI_le (Nat.le_refl _) (by omega)) h
  | succ k ih =>
    intro i hi
    obtain ⟨v, hv⟩ := sf_ex (l := l) (i := i) (by omega)
    obtain ⟨u, hu⟩ := sf_ex (l := m) (i := i) (by omega)
    have hin : vp_in (nI (c + 1)) 17 := vp_in_nI hq (by decide)
    have e1 : (nI (c + 1)).toNatClampNeg = c + 1 := nI_clamp (by omega)
    have e2 : nI (c * 256) + nI t + nI i = nI (c * 256 + t + i) := by rw [nI_add, nI_add]
    have e3 : (nI (c * 256 + t + i)).toNatClampNeg = c * 256 + t + i := nI_clamp (by omega)
    have e4 : sf_ap vs ((c + 1) * 256 + d) (List.zipWith (sf_bi (op (c + 1))) (m.take i) (l.take i)) (c * 256 + t + i) = v := by
      rw [sf_ap_out (by omega)]; exact hl i v hv
    have f2 : nI (a * 256) + nI s + nI i = nI (a * 256 + s + i) := by rw [nI_add, nI_add]
    have f3 : (nI (a * 256 + s + i)).toNatClampNeg = a * 256 + s + i := nI_clamp (by omega)
    have f4 : sf_ap vs ((c + 1) * 256 + d) (List.zipWith (sf_bi (op (c + 1))) (m.take i) (l.take i)) (a * 256 + s + i) = u := by
      rw [sf_ap_out (by omega)]; exact hm i u hu
    refine br_f (nI_ge (by omega) (by omega)) ⟨hin, pk_in (a * 256 + s + i) 4352 (by omega) f2, pk_in (c * 256 + t + i) 4352 (by omega) e2, ?_⟩
    rw [e1, f2, f3, f4, e2, e3, e4]
    refine xu_binary (xu_append hq (d := d + i) (by omega) pk_us (nm_r (nI_1 i) ?_))
    rw [sf_ap_s2 (i := i) (m := List.zipWith (sf_bi (op (c + 1))) (m.take (i + 1)) (l.take (i + 1))) (by rw [List.length_zipWith, sf_tl (by omega), sf_tl (by omega)]; omega) (by rw [sf_take_s hv, sf_take_s hu, List.zipWith_append (by rw [sf_tl (by omega), sf_tl (by omega)])]; rfl), sn_upd_upd]
    exact ih (i + 1) (by omega)
theorem xu_zip {post : St2 → Prop} {a c d s t e : Nat} {m l : List Int32} (hq : c + 1 < 17) (ha : a < c + 1) (he : e + 1 < 256) (hs : s + m.length ≤ 216) (hs' : t + l.length ≤ 216) (hd : d + (List.zipWith (sf_bi (op (c + 1))) m l).length ≤ 216) (hlo : lo (c + 1) = nI a) (g0 : ss (a * 256 + e) = nI s) (g1 : ss (a * 256 + e + 1) = nI (s + m.length)) (h0 : ss (c * 256 + e) = nI t) (h1 : ss (c * 256 + e + 1) = nI (t + l.length)) (hm : sf_Hd vs (a * 256 + s) m) (hl : sf_Hd vs (c * 256 + t) l) (ht : ts (c + 1) = nI d)
    (h : post (xh, xn, xd, xr, xl, ki, op, ar, lo, so, sz, cc, on, sf_ap vs ((c + 1) * 256 + d) (List.zipWith (sf_bi (op (c + 1))) m l), ss, upd ts (c + 1) (nI (d + (List.zipWith (sf_bi (op (c + 1))) m l).length)), re)) : wpX_addZipped post (xh, xn, xd, xr, xl, ki, op, ar, lo, so, sz, cc, on, vs, ss, ts, re) (nI (c + 1)) (nI e) := by
  have e1 : (nI (c + 1) - 1) * 256 = nI (c * 256) := by rw [nI_pred, show (256 : Int32) = nI 256 from rfl, pk_mul]
  have e5 : (nI (c + 1)).toNatClampNeg = c + 1 := nI_clamp (by omega)
  have e0 : lo (nI (c + 1)).toNatClampNeg * 256 = nI (a * 256) := by rw [e5, hlo, show (256 : Int32) = nI 256 from rfl, pk_mul]
  have e2 : nI (c * 256) + nI e = nI (c * 256 + e) := nI_add _ _
  have e3 : (nI (c * 256 + e)).toNatClampNeg = c * 256 + e := nI_clamp (by omega)
  have e4 : (nI (c * 256 + e + 1)).toNatClampNeg = c * 256 + e + 1 := nI_clamp (by omega)
  have f2 : nI (a * 256) + nI e = nI (a * 256 + e) := nI_add _ _
  have f3 : (nI (a * 256 + e)).toNatClampNeg = a * 256 + e := nI_clamp (by omega)
  have f4 : (nI (a * 256 + e + 1)).toNatClampNeg = a * 256 + e + 1 := nI_clamp (by omega)
  have e6 : nI (t + l.length) - nI t = nI l.length := sn_sub (by omega)
  have f6 : nI (s + m.length) - nI s = nI m.length := sn_sub (by omega)
  rw [List.length_zipWith] at hd h
  refine And.intro (vp_in_nI hq (by decide)) (nm_r e0 (nm_r e1 ⟨pk_in (a * 256 + e) 4352 (by omega) f2, nm_r (e' := nI s) (by rw [f2, f3, g0]) ⟨pk_in (c * 256 + e) 4352 (by omega) e2, nm_r (e' := nI t) (by rw [e2, e3, h0]) ⟨pk_in (a * 256 + e + 1) 4352 (by omega) (by rw [f2, nI_1]), nm_r (e' := nI m.length) (by rw [f2, nI_1, f4, g1, f6]) ⟨pk_in (c * 256 + e + 1) 4352 (by omega) (by rw [e2, nI_1]), nm_r (e' := nI l.length) (by rw [e2, nI_1, e4, h1, e6]) ?_⟩⟩⟩⟩))
  have key : ∀ n, n = min m.length l.length → ∃ n91 : Nat, wX_addZipped_91 post (nI (c + 1)) (nI (a * 256)) (nI (c * 256)) (nI s) (nI t) (nI n) n91 0 xh xn xd xr xl ki op ar lo so sz cc on vs ss ts re := by
    intro n hn
    refine ⟨n + 1, ?_⟩
    have := xu_zip_l (post := post) (d := d) hq ha hs hs' hn (by omega) hm hl (by rw [hn]; exact h) n 0 (by omega)
    rw [List.take_zero, List.take_zero, List.zipWith_nil_left, sf_ap_nil, Nat.add_zero d, sn_upd_self ht] at this
    exact this
  refine ⟨fun z => ?_, fun z => ?_⟩
  · have := (nI_leI (by omega) (by omega)).mp z
    exact key _ (by omega)
  · have : ¬ l.length ≤ m.length := fun g => z ((nI_leI (by omega) (by omega)).mpr g)
    exact key _ (by omega)
theorem xu_cat {post : St2 → Prop} {a c d s0 s1 t e : Nat} {l : List Int32} (hq : c + 1 < 17) (ha : a < c + 1) (he : e + 1 < 256) (hs0 : s0 ≤ 216) (hs1 : s1 ≤ 216) (hs : t + l.length ≤ 216) (hd : d + l.length ≤ 216) (hlo : lo (c + 1) = nI a) (g0 : ss (a * 256 + e) = nI s0) (g1 : ss (a * 256 + e + 1) = nI s1) (h0 : ss (c * 256 + s0) = nI t) (h1 : ss (c * 256 + s1) = nI (t + l.length)) (hl : sf_Hd vs (c * 256 + t) l) (ht : ts (c + 1) = nI d)
    (h : post (xh, xn, xd, xr, xl, ki, op, ar, lo, so, sz, cc, on, sf_ap vs ((c + 1) * 256 + d) l, ss, upd ts (c + 1) (nI (d + l.length)), re)) : wpX_addConcatenated post (xh, xn, xd, xr, xl, ki, op, ar, lo, so, sz, cc, on, vs, ss, ts, re) (nI (c + 1)) (nI e) := by
  have e1 : (nI (c + 1) - 1) * 256 = nI (c * 256) := by rw [nI_pred, show (256 : Int32) = nI 256 from rfl, pk_mul]
  have e5 : (nI (c + 1)).toNatClampNeg = c + 1 := nI_clamp (by omega)
  have e0 : lo (nI (c + 1)).toNatClampNeg * 256 = nI (a * 256) := by rw [e5, hlo, show (256 : Int32) = nI 256 from rfl, pk_mul]
  have f2 : nI (a * 256) + nI e = nI (a * 256 + e) := nI_add _ _
  have f3 : (nI (a * 256 + e)).toNatClampNeg = a * 256 + e := nI_clamp (by omega)
  have f4 : (nI (a * 256 + e + 1)).toNatClampNeg = a * 256 + e + 1 := nI_clamp (by omega)
  have i0 : nI (c * 256) + ss (nI (a * 256) + nI e).toNatClampNeg = nI (c * 256 + s0) := by rw [f2, f3, g0, nI_add]
  have i1 : nI (c * 256) + ss (nI (a * 256) + nI e + 1).toNatClampNeg = nI (c * 256 + s1) := by rw [f2, nI_1, f4, g1, nI_add]
  have j0 : (nI (c * 256 + s0)).toNatClampNeg = c * 256 + s0 := nI_clamp (by omega)
  have j1 : (nI (c * 256 + s1)).toNatClampNeg = c * 256 + s1 := nI_clamp (by omega)
  refine And.intro (vp_in_nI hq (by decide)) (nm_r e0 (nm_r e1 ⟨pk_in (a * 256 + e) 4352 (by omega) f2, pk_in (c * 256 + s0) 4352 (by omega) i0, nm_r (e' := nI t) (by rw [i0, j0, h0]) ⟨pk_in (a * 256 + e + 1) 4352 (by omega) (by rw [f2, nI_1]), pk_in (c * 256 + s1) 4352 (by omega) i1, nm_r (e' := nI (t + l.length)) (by rw [i1, j1, h1]) ?_⟩⟩))
  exact xu_slice hq hs rfl hd hl ht h
end XA
end
section
/-! the component's evaluation -/
def xe_H (n : Nat) (K st sc : Nat → Nat) (A B : Nat → Int32) (L : Nat → Int32 → List Int32) (ro : Nat → List Int32) (ki op ar lo so : Nat → Int32) : Prop :=
  n ≤ 16 ∧ sf_WF n K st ∧ sf_Sp n K A B st L ∧ sf_scp n K st sc ∧ sf_src n K B ∧ sf_Rw n sc L ro ∧ (∀ q, q < n → ((sf_E ro (sc q)).flatMap (L q)).length ≤ 216) ∧ (∀ q, q < n → (sf_E ro (sc q)).length ≤ 216) ∧ ∀ p, p < n → sf_XN ki op ar lo so A B K st sc p
section XE
variable {xh xn xd xr xl : Int32} {ki op ar lo so sz cc on vs ss ts re : Nat → Int32} {n : Nat} {K st sc : Nat → Nat} {A B : Nat → Int32} {L : Nat → Int32 → List Int32} {ro : Nat → List Int32}
theorem xe_sw {F : St2 → Prop} {p e d : Nat} {x : Int32} (H : xe_H n K st sc A B L ro ki op ar lo so) (hp : p < n) (hI : sf_XI sc L ro p vs ss ts) (he : (sf_E ro (sc p))[e]? = some x) (hd : d + (L p x).length ≤ 216) (ht : ts (p + 1) = nI d)
    (h : F (xh, xn, xd, xr, xl, ki, op, ar, lo, so, sz, cc, on, sf_ap vs ((p + 1) * 256 + d) (L p x), ss, upd ts (p + 1) (nI (d + (L p x).length)), re)) :
    ((nI (K p) < 0 → wpX_addConcatenated F (xh, xn, xd, xr, xl, ki, op, ar, lo, so, sz, cc, on, vs, ss, ts, re) (nI (p + 1)) (nI e)) ∧ (¬ nI (K p) < 0 → ((7 < nI (K p) → wpX_addConcatenated F (xh, xn, xd, xr, xl, ki, op, ar, lo, so, sz, cc, on, vs, ss, ts, re) (nI (p + 1)) (nI e)) ∧ (¬ 7 < nI (K p) →
    ((nI (K p) = 0 → vp_in (nI (p + 1)) 17 ∧ (vp_in (nI (p + 1)) 17 ∧ wpX_addRun F (xh, xn, xd, xr, xl, ki, op, ar, lo, so, sz, cc, on, vs, ss, ts, re) (nI (p + 1)) (ar (nI (p + 1)).toNatClampNeg) (op (nI (p + 1)).toNatClampNeg))) ∧ (¬ nI (K p) = 0 →
    ((nI (K p) = 1 → wpX_addInner F (xh, xn, xd, xr, xl, ki, op, ar, lo, so, sz, cc, on, vs, ss, ts, re) (nI (p + 1)) (nI e)) ∧ (¬ nI (K p) = 1 →
    ((nI (K p) = 2 → wpX_addMapped F (xh, xn, xd, xr, xl, ki, op, ar, lo, so, sz, cc, on, vs, ss, ts, re) (nI (p + 1)) (nI e)) ∧ (¬ nI (K p) = 2 →
    ((nI (K p) = 3 → wpX_addFiltered F (xh, xn, xd, xr, xl, ki, op, ar, lo, so, sz, cc, on, vs, ss, ts, re) (nI (p + 1)) (nI e)) ∧ (¬ nI (K p) = 3 →
    ((nI (K p) = 4 → wpX_addTaken F (xh, xn, xd, xr, xl, ki, op, ar, lo, so, sz, cc, on, vs, ss, ts, re) (nI (p + 1)) (nI e)) ∧ (¬ nI (K p) = 4 →
    ((nI (K p) = 5 → wpX_addDropped F (xh, xn, xd, xr, xl, ki, op, ar, lo, so, sz, cc, on, vs, ss, ts, re) (nI (p + 1)) (nI e)) ∧ (¬ nI (K p) = 5 →
    ((nI (K p) = 6 → wpX_addScanned F (xh, xn, xd, xr, xl, ki, op, ar, lo, so, sz, cc, on, vs, ss, ts, re) (nI (p + 1)) (nI e)) ∧ (¬ nI (K p) = 6 →
    ((nI (K p) = 7 → wpX_addZipped F (xh, xn, xd, xr, xl, ki, op, ar, lo, so, sz, cc, on, vs, ss, ts, re) (nI (p + 1)) (nI e)) ∧ (¬ nI (K p) = 7 → True)))))))))))))))))))) := by
  obtain ⟨H1, H2, H3, H4, H5, H6, H7, H8, H9⟩ := H
  obtain ⟨N1, N2, N3, N4, N5, N6, N7⟩ := H9 p hp
  have hel := sf_lt he
  have hE := H8 p hp
  have hin : vp_in (nI (p + 1)) 17 := vp_in_nI (by omega) (by decide)
  have e1 : (nI (p + 1)).toNatClampNeg = p + 1 := nI_clamp (by omega)
  have hk8 : K p ≤ 8 := by
    rcases H2 p hp with ⟨k, _⟩ | ⟨_, k, _⟩ | ⟨_, k, _⟩ <;> omega
  have hst := sf_st_le H2
  by_cases k0 : K p = 0
  · obtain ⟨b, hb, eb⟩ := H5 p hp (by omega)
    rw [sf_L0 H3 hp k0, eb, nI_clamp (by omega), sf_run_len] at h hd
    rw [k0, e1, (N3 (by omega)).1, (N3 (by omega)).2, eb]
    exact br_f (by decide) (br_f (by decide) (br_t rfl ⟨hin, hin, xu_run (by omega) hd ht h⟩))
  by_cases k1 : K p = 1
  · obtain ⟨b, hb, eb⟩ := H5 p hp (by omega)
    rw [sf_L1 H3 hp k1, eb, sf_run_len] at h hd
    rw [← (N3 (by omega)).2] at h
    have hsc := H4.1 p hp
    have := hst p hp
    have hx := (sf_XI_E H6 (by omega) hI (s := sc p) (by omega)).2 e x he
    rw [k1]
    exact br_f (by decide) (br_f (by decide) (br_f (by decide) (br_t rfl (xu_inner (by omega) (s := sc p) (by omega) (by omega) hb N2 hx ((N3 (by omega)).1.trans eb) hd ht h))))
  obtain ⟨c, rfl⟩ : ∃ c, p = c + 1 := by
    rcases H2 p hp with ⟨k, _⟩ | ⟨_, _, k, _⟩ | ⟨_, _, k, _⟩
    · omega
    · exact ⟨p - 1, by omega⟩
    · exact ⟨p - 1, by omega⟩
  by_cases k6 : K (c + 1) ≤ 6
  · have hsc := (H4.2 c hp).1 (by omega) k6
    obtain ⟨s, hs, s0, s1, hl⟩ := sf_XI_list (q := c) hI (H7 c (by omega)) (by omega) (by rw [hsc]; exact he)
    by_cases k2 : K (c + 1) = 2
    · rw [sf_L2 H3 hp k2, ← (N4 (by omega)).1, ← (N4 (by omega)).2] at h hd
      rw [List.length_map] at h hd
      rw [k2]
      exact br_f (by decide) (br_f (by decide) (br_f (by decide) (br_f (by decide) (br_t rfl (xu_map (by omega) (by omega) hs hd s0 s1 hl ht h)))))
    by_cases k3 : K (c + 1) = 3
    · rw [sf_L3 H3 hp k3, ← (N4 (by omega)).1, ← (N4 (by omega)).2] at h hd
      rw [k3]
      exact br_f (by decide) (br_f (by decide) (br_f (by decide) (br_f (by decide) (br_f (by decide) (br_t rfl (xu_filter (by omega) (by omega) hs hd s0 s1 hl ht h))))))
    by_cases k4 : K (c + 1) = 4
    · rw [sf_L4 H3 hp k4, ← N5 (by omega)] at h hd
      rw [k4]
      exact br_f (by decide) (br_f (by decide) (br_f (by decide) (br_f (by decide) (br_f (by decide) (br_f (by decide) (br_t rfl (xu_take (by omega) (by omega) hs hd s0 s1 hl ht h)))))))
    by_cases k5 : K (c + 1) = 5
    · rw [sf_L5 H3 hp k5, ← N5 (by omega)] at h hd
      rw [k5]
      exact br_f (by decide) (br_f (by decide) (br_f (by decide) (br_f (by decide) (br_f (by decide) (br_f (by decide) (br_f (by decide) (br_t rfl (xu_drop (by omega) (by omega) hs hd s0 s1 hl ht h))))))))
    · have k6' : K (c + 1) = 6 := by omega
      rw [sf_L6 H3 hp k6', ← (N4 (by omega)).1, ← (N4 (by omega)).2] at h hd
      rw [sf_scan_len] at h hd
      rw [k6']
      exact br_f (by decide) (br_f (by decide) (br_f (by decide) (br_f (by decide) (br_f (by decide) (br_f (by decide) (br_f (by decide) (br_f (by decide) (br_t rfl (xu_scan (by omega) (by omega) hs hd s0 s1 hl ht h)))))))))
  · obtain ⟨a, ea, hac⟩ : ∃ a, st c = a + 1 ∧ a + 1 ≤ c := by
      have := hst c (by omega)
      rcases H2 (c + 1) hp with ⟨k, _⟩ | ⟨_, k, _⟩ | ⟨_, _, _, h2, _⟩
      · omega
      · omega
      · rw [Nat.add_sub_cancel] at h2
        exact ⟨st c - 1, by omega, by omega⟩
    have hlo := N7 (by omega)
    rw [Nat.add_sub_cancel, ea] at hlo
    by_cases k7 : K (c + 1) = 7
    · have hsc := (H4.2 c hp).2.1 a ea k7
      obtain ⟨s, hs, s0, s1, hl⟩ := sf_XI_list (q := c) hI (H7 c (by omega)) (by omega) (by rw [hsc.1]; exact he)
      obtain ⟨t, ht', t0, t1, hm⟩ := sf_XI_list (q := a) hI (H7 a (by omega)) (by omega) (by rw [hsc.2]; exact he)
      rw [sf_L7 H3 hp k7 ea, ← N6 k7] at h hd
      rw [k7]
      exact br_f (by decide) (br_f (by decide) (br_f (by decide) (br_f (by decide) (br_f (by decide) (br_f (by decide) (br_f (by decide) (br_f (by decide) (br_f (by decide) (br_t rfl (xu_zip (a := a + 1) (by omega) (by omega) (by omega) ht' hs hd hlo t0 t1 s0 s1 hm hl ht h))))))))))
    · have k8 : K (c + 1) = 8 := by omega
      have hsc := (H4.2 c hp).2.2 a ea k8
      obtain ⟨s0, s1, t, q1, q2, q3, q4, q5, q6, q7, q8⟩ := sf_XI_cat (c := c) (a := a) H6 (by omega) hI (by omega) (by omega) hsc.1 (H7 a (by omega)) (H7 c (by omega)) (by rw [hsc.2]; exact he)
      rw [sf_L8 H3 hp k8 ea] at h hd
      rw [k8]
      exact br_f (by decide) (br_t (by decide) (xu_cat (a := a + 1) (by omega) (by omega) (by omega) q1 q2 q3 hd hlo q4 q5 q6 q7 q8 ht h))
theorem xe_loop {post : St2 → Prop} {p : Nat} (H : xe_H n K st sc A B L ro ki op ar lo so) (hp : p < n) (hI : sf_XI sc L ro p vs ss ts)
    (h : post (xh, xn, xd, xr, xl, ki, op, ar, lo, so, sz, cc, on, sf_ap vs ((p + 1) * 256) (sf_P (sf_E ro (sc p)) (L p) (sf_E ro (sc p)).length), sf_ap ss ((p + 1) * 256) (sf_S (sf_E ro (sc p)) (L p) (sf_E ro (sc p)).length), upd ts (p + 1) (nI (sf_P (sf_E ro (sc p)) (L p) (sf_E ro (sc p)).length).length), re)) :
    ∀ k e, e + k = (sf_E ro (sc p)).length → wX_evaluateNode_35 post (nI (p + 1)) (nI ((p + 1) * 256)) (nI (sf_E ro (sc p)).length) (k + 1) (nI e) xh xn xd xr xl ki op ar lo so sz cc on (sf_ap vs ((p + 1) * 256) (sf_P (sf_E ro (sc p)) (L p) e)) (sf_ap ss ((p + 1) * 256) (sf_S (sf_E ro (sc p)) (L p) e)) (upd ts (p + 1) (nI (sf_P (sf_E ro (sc p)) (L p) e).length)) re := by
  have H1 := H.1
  have hE := H.2.2.2.2.2.2.2.1 p hp
  have hB := H.2.2.2.2.2.2.1 p hp
  have N1 := (H.2.2.2.2.2.2.2.2 p hp).1
  intro k
  induction k with
  | zero =>
    intro e he
    have : e = (sf_E ro (sc p)).length := by omega
    subst this
    exact br_t (nI_le (Nat.le_refl _) (by omega)) h
  | succ k ih =>
    intro e he
    obtain ⟨x, hx⟩ := sf_ex (l := sf_E ro (sc p)) (i := e) (by omega)
    have hin : vp_in (nI (p + 1)) 17 := vp_in_nI (by omega) (by decide)
    have e1 : (nI (p + 1)).toNatClampNeg = p + 1 := nI_clamp (by omega)
    have e2 : nI ((p + 1) * 256) + nI e + 1 = nI ((p + 1) * 256 + e + 1) := by rw [nI_add, nI_1]
    have e3 : (nI ((p + 1) * 256 + e + 1)).toNatClampNeg = (p + 1) * 256 + e + 1 := nI_clamp (by omega)
    have eP := sf_P_s (f := L p) hx
    have eL : (sf_P (sf_E ro (sc p)) (L p) (e + 1)).length = (sf_P (sf_E ro (sc p)) (L p) e).length + (L p x).length := by rw [eP, List.length_append]
    have hle := sf_P_le (sf_E ro (sc p)) (L p) (e + 1)
    refine br_f (nI_ge (by omega) (by omega)) ⟨hin, nm_r (e' := nI (K p)) (by rw [e1, N1]) (xe_sw H hp (sf_XI_ap (fun q hq => H.2.2.2.2.2.2.1 q (by omega)) (fun q hq => H.2.2.2.2.2.2.2.1 q (by omega)) hI) hx (d := (sf_P (sf_E ro (sc p)) (L p) e).length) (by omega) pk_us ?_)⟩
    refine And.intro hin (And.intro (pk_in ((p + 1) * 256 + e + 1) 4352 (by omega) e2) (nm_r (e' := sf_ap ss ((p + 1) * 256) (sf_S (sf_E ro (sc p)) (L p) (e + 1))) ?_ (nm_r (nI_1 e) ?_)))
    · rw [e2, e3, e1, pk_us, ← eL]
      have := sf_ap_snoc ss ((p + 1) * 256) (sf_S (sf_E ro (sc p)) (L p) e) (nI (sf_P (sf_E ro (sc p)) (L p) (e + 1)).length)
      rw [sf_S_len, ← Nat.add_assoc] at this
      exact this
    · rw [sf_ap_ap, ← eP, sn_upd_upd, ← eL]
      exact ih (e + 1) (by omega)
theorem xe_node {post : St2 → Prop} {p : Nat} (H : xe_H n K st sc A B L ro ki op ar lo so) (hp : p < n) (hI : sf_XI sc L ro p vs ss ts)
    (h : ∀ vs' ss' ts', sf_XI sc L ro (p + 1) vs' ss' ts' → post (xh, xn, xd, xr, xl, ki, op, ar, lo, so, sz, cc, on, vs', ss', ts', re)) : wpX_evaluateNode post (xh, xn, xd, xr, xl, ki, op, ar, lo, so, sz, cc, on, vs, ss, ts, re) (nI (p + 1)) := by
  have H1 := H.1
  have hsc := H.2.2.2.1.1 p hp
  have hst := sf_st_le H.2.1 p hp
  have N2 := (H.2.2.2.2.2.2.2.2 p hp).2.1
  have hin : vp_in (nI (p + 1)) 17 := vp_in_nI (by omega) (by decide)
  have e1 : (nI (p + 1)).toNatClampNeg = p + 1 := nI_clamp (by omega)
  have e2 : nI (p + 1) * 256 = nI ((p + 1) * 256) := by rw [show (256 : Int32) = nI 256 from rfl, pk_mul]
  have e3 : (nI ((p + 1) * 256)).toNatClampNeg = (p + 1) * 256 := nI_clamp (by omega)
  have e4 : so (nI (p + 1)).toNatClampNeg = nI (sc p) := by rw [e1, N2]
  have e5 : (nI (sc p)).toNatClampNeg = sc p := nI_clamp (by omega)
  have hT := (sf_XI_E H.2.2.2.2.2.1 (by omega) hI (s := sc p) (by omega)).1
  have hstep := sf_XI_step (p := p) (fun q hq => H.2.2.2.2.2.2.1 q (by omega)) (fun q hq => H.2.2.2.2.2.2.2.1 q (by omega)) hI
  have hloop := xe_loop H hp hI (h _ _ _ hstep) (sf_E ro (sc p)).length 0 (by omega)
  refine nm_r e2 ⟨hin, pk_in (sc p) 17 (by omega) e4, nm_r (e' := nI (sf_E ro (sc p)).length) (by rw [e4, e5, hT]) ⟨hin, nm_r (e' := upd ts (p + 1) 0) (by rw [e1]) ⟨pk_in ((p + 1) * 256) 4352 (by omega), nm_r (e' := sf_ap ss ((p + 1) * 256) (sf_S (sf_E ro (sc p)) (L p) 0)) ?_ ⟨(sf_E ro (sc p)).length + 1, ?_⟩⟩⟩⟩
  · rw [e3]
    have := sf_ap_snoc ss ((p + 1) * 256) [] 0
    rw [sf_ap_nil] at this
    exact this
  · rw [sf_P_0, sf_ap_nil] at hloop
    exact hloop
theorem xe_pipe_l {post : Int32 → St2 → Prop} (H : xe_H n K st sc A B L ro ki op ar lo so) (hn : xn = nI n) (h : ∀ vs ss ts, sf_XI sc L ro n vs ss ts → post (nI (sf_rs (fun q => (ro q).length) 0 n)) (xh, xn, xd, xr, xl, ki, op, ar, lo, so, sz, cc, on, vs, ss, ts, re)) :
    ∀ k p vs ss ts, p + k = n → sf_XI sc L ro p vs ss ts → wX_evaluatePipeline_4 post (k + 1) (nI (sf_rs (fun q => (ro q).length) 0 p)) (nI (p + 1)) xh xn xd xr xl ki op ar lo so sz cc on vs ss ts re := by
  have H1 := H.1
  intro k
  induction k with
  | zero =>
    intro p vs ss ts hp hI
    have : p = n := by omega
    subst this
    exact br_t (by rw [hn]; exact nI_lt (by omega) (by omega)) (h vs ss ts hI)
  | succ k ih =>
    intro p vs ss ts hp hI
    have e1 : (nI (p + 1)).toNatClampNeg = p + 1 := nI_clamp (by omega)
    refine br_f (by rw [hn]; exact nI_nlt (by omega) (by omega)) (xe_node H (by omega) hI (fun vs' ss' ts' hI' => ?_))
    have hT := (sf_XI_E H.2.2.2.2.2.1 (by omega) hI' (s := p + 1) (by omega)).1
    refine And.intro (vp_in_nI (by omega) (by decide)) (nm_r (e' := nI (sf_rs (fun q => (ro q).length) 0 (p + 1))) ?_ (nm_r (nI_1 (p + 1)) (ih (p + 1) vs' ss' ts' (by omega) hI')))
    rw [e1, hT, nI_add, sf_rs_s, if_pos (Nat.zero_le _)]
    rfl
theorem xe_pipe {post : Int32 → St2 → Prop} (H : xe_H n K st sc A B L ro ki op ar lo so) (hn : xn = nI n) (h0 : ts 0 = 1) (h1 : vs 0 = 0) (h : ∀ vs ss ts, sf_XI sc L ro n vs ss ts → post (nI (sf_rs (fun q => (ro q).length) 0 n)) (xh, xn, xd, xr, xl, ki, op, ar, lo, so, sz, cc, on, vs, ss, ts, re)) : wpX_evaluatePipeline post (xh, xn, xd, xr, xl, ki, op, ar, lo, so, sz, cc, on, vs, ss, ts, re) :=
  ⟨n + 1, xe_pipe_l H hn h n 0 vs ss ts (by omega) ⟨h0, h1, fun q hq => absurd hq (Nat.not_lt_zero q)⟩⟩
theorem xe_keep_l {post : St2 → Prop} {l : List Int32} (hn : n ≤ 16) (hl : l.length ≤ 216) (hv : sf_Hd vs (n * 256) l) (h : post (xh, xn, xd, nI l.length, xl, ki, op, ar, lo, so, sz, cc, on, vs, ss, ts, sf_ap re 0 l)) :
    ∀ k i, i + k = l.length → wX_keepResult_24 post (nI (n * 256)) xh xn xd (nI l.length) xl (k + 1) (nI i) ki op ar lo so sz cc on vs ss ts (sf_ap re 0 (l.take i)) := by
  intro k
  induction k with
  | zero =>
    intro i hi
    have : i = l.length := by omega
    subst this
    rw [sf_take_all]
    exact br_t (nI_le (Nat.le_refl _) (by omega)) h
  | succ k ih =>
    intro i hi
    obtain ⟨v, hv'⟩ := sf_ex (l := l) (i := i) (by omega)
    have e1 : nI (n * 256) + nI i = nI (n * 256 + i) := nI_add _ _
    have e2 : (nI (n * 256 + i)).toNatClampNeg = n * 256 + i := nI_clamp (by omega)
    have e3 : (nI i).toNatClampNeg = i := nI_clamp (by omega)
    refine br_f (nI_ge (by omega) (by omega)) ⟨pk_in (n * 256 + i) 4352 (by omega) e1, vp_in_nI (by omega) (by decide), nm_r (e' := sf_ap re 0 (l.take (i + 1))) ?_ (nm_r (nI_1 i) (ih (i + 1) (by omega)))⟩
    rw [e1, e2, e3, hv i v hv', sf_take_s hv']
    have := sf_ap_snoc re 0 (l.take i) v
    rw [sf_tl (by omega), Nat.zero_add] at this
    exact this
theorem xe_keep {post : St2 → Prop} {l : List Int32} (hn : n ≤ 16) (en : xn = nI n) (hl : l.length ≤ 216) (ht : ts n = nI l.length) (hv : sf_Hd vs (n * 256) l) (h : post (xh, xn, xd, nI l.length, xl, ki, op, ar, lo, so, sz, cc, on, vs, ss, ts, sf_ap re 0 l)) : wpX_keepResult post (xh, xn, xd, xr, xl, ki, op, ar, lo, so, sz, cc, on, vs, ss, ts, re) := by
  have e1 : xn * 256 = nI (n * 256) := by rw [en, show (256 : Int32) = nI 256 from rfl, pk_mul]
  have e2 : (nI n).toNatClampNeg = n := nI_clamp (by omega)
  have := xe_keep_l hn hl hv h l.length 0 (by omega)
  rw [List.take_zero, sf_ap_nil] at this
  exact nm_r e1 ⟨pk_in n 17 (by omega) en, nm_r (e' := nI l.length) (by rw [en, e2, ht]) ⟨l.length + 1, this⟩⟩
end XE
end
section
/-! the building calls, walked -/
theorem sf_cn_le (K : Nat → Nat) (a : Nat) : ∀ b, sf_cn K a b ≤ b := by
  intro b
  induction b with
  | zero => exact Nat.le_refl _
  | succ b ih =>
    rw [sf_cn_s]
    split <;> omega
theorem rl_b0 : vp_nar .boolean 0 = 0 := by decide
theorem rl_b1 : vp_nar .boolean 1 = 1 := by decide
section XB
variable {xh xn xd xr xl : Int32} {ki op ar lo so sz cc on vs ss ts re : Nat → Int32} {n d : Nat} {K st sc R : Nat → Nat}
theorem xb_node {post : St2 → Prop} {k a b : Int32} (en : xn = nI n) (hn : n < 16) (h : post (xh, nI (n + 1), xd, xr, xl, upd ki (n + 1) k, upd op (n + 1) a, upd ar (n + 1) b, lo, upd so (n + 1) 0, sz, cc, on, vs, ss, ts, re)) : wpX_addNode post (xh, xn, xd, xr, xl, ki, op, ar, lo, so, sz, cc, on, vs, ss, ts, re) k a b := by
  have e1 : (nI (n + 1)).toNatClampNeg = n + 1 := nI_clamp (by omega)
  have hin : vp_in (nI (n + 1)) 17 := vp_in_nI (by omega) (by decide)
  exact nm_r (e' := nI (n + 1)) (by rw [en, nI_1]) ⟨hin, nm_r (e' := upd ki (n + 1) k) (by rw [e1]) ⟨hin, nm_r (e' := upd op (n + 1) a) (by rw [e1]) ⟨hin, nm_r (e' := upd ar (n + 1) b) (by rw [e1]) ⟨hin, nm_r (e' := upd so (n + 1) 0) (by rw [e1]) h⟩⟩⟩⟩
theorem xb_push {post : St2 → Prop} {k a b o : Int32} (en : xn = nI n) (ed : xd = nI d) (hn : n < 16) (hd : d < 16) (ho : vp_nar .boolean o = o) (h : post (xh, nI (n + 1), nI (d + 1), xr, xl, upd ki (n + 1) k, upd op (n + 1) a, upd ar (n + 1) b, lo, upd so (n + 1) 0, upd sz d 1, upd cc d 0, upd on d o, vs, ss, ts, re)) : wpX_pushSource post (xh, xn, xd, xr, xl, ki, op, ar, lo, so, sz, cc, on, vs, ss, ts, re) k a b o := by
  have e1 : (nI d).toNatClampNeg = d := nI_clamp (by omega)
  have hin : vp_in (nI d) 16 := vp_in_nI hd (by decide)
  subst ed
  unfold wpX_pushSource
  exact xb_node en hn ⟨hin, nm_r (e' := upd sz d 1) (by rw [e1]) ⟨hin, nm_r (e' := upd cc d 0) (by rw [e1]) ⟨hin, nm_r (e' := upd on d o) (by rw [e1, ho]) (nm_r (nI_1 d) h)⟩⟩⟩
theorem xb_ext {post : Int32 → St2 → Prop} {k a b : Int32} (en : xn = nI n) (ed : xd = nI d) (hn : n ≤ 16) (hd : d ≤ n) (h0 : d = 0 → post 2 (xh, xn, xd, xr, xl, ki, op, ar, lo, so, sz, cc, on, vs, ss, ts, re)) (h1 : d ≠ 0 → n = 16 → post 3 (xh, xn, xd, xr, xl, ki, op, ar, lo, so, sz, cc, on, vs, ss, ts, re))
    (h2 : ∀ e, d = e + 1 → n < 16 → post 0 (xh, nI (n + 1), xd, xr, xl, upd ki (n + 1) k, upd op (n + 1) a, upd ar (n + 1) b, lo, upd so (n + 1) 0, upd sz e (sz e + 1), cc, on, vs, ss, ts, re)) : wpX_extendTop post (xh, xn, xd, xr, xl, ki, op, ar, lo, so, sz, cc, on, vs, ss, ts, re) k a b := by
  refine pk_eq d 0 (fun g => h0 g) (fun g => pk_eq n 16 (fun g' => h1 g g') (fun g' => ?_) en) ed
  obtain ⟨e, rfl⟩ : ∃ e, d = e + 1 := ⟨d - 1, by omega⟩
  subst ed
  have e1 : nI (e + 1) - 1 = nI e := nI_pred e
  have e2 : (nI e).toNatClampNeg = e := nI_clamp (by omega)
  have hin : vp_in (nI (e + 1) - 1) 16 := pk_in e 16 (by omega) e1
  exact xb_node en (by omega) ⟨hin, hin, nm_r (e' := upd sz e (sz e + 1)) (by rw [e1, e2]) (h2 e rfl (by omega))⟩
theorem xb_join {post : St2 → Prop} {k a : Int32} {s : Nat} (en : xn = nI n) (ed : xd = nI (d + 2)) (hn : n < 16) (hd : d + 2 ≤ n) (hs : s ≤ n) (hz : sz (d + 1) = nI (n - s))
    (h : post (xh, nI (n + 1), nI (d + 1), xr, xl, upd ki (n + 1) k, upd op (n + 1) a, upd ar (n + 1) 0, upd lo (n + 1) (nI s), upd so (n + 1) 0, upd sz d (sz d + (sz (d + 1) + 1)), upd cc d (cc d + cc (d + 1)), on, vs, ss, ts, re)) : wpX_joinTopTwo post (xh, xn, xd, xr, xl, ki, op, ar, lo, so, sz, cc, on, vs, ss, ts, re) k a := by
  subst ed
  have e1 : (nI (n + 1)).toNatClampNeg = n + 1 := nI_clamp (by omega)
  have e2 : nI (d + 2) - 1 = nI (d + 1) := nI_pred (d + 1)
  have e3 : (nI (d + 1)).toNatClampNeg = d + 1 := nI_clamp (by omega)
  have e4 : nI (d + 1) - 1 = nI d := nI_pred d
  have e5 : (nI d).toNatClampNeg = d := nI_clamp (by omega)
  have i1 : vp_in (nI (d + 1)) 16 := vp_in_nI (by omega) (by decide)
  have i2 : vp_in (nI (d + 1) - 1) 16 := pk_in d 16 (by omega) e4
  refine nm_r e2 ⟨i1, nm_r (e' := nI s) (by rw [e3, hz, en]; exact sn_sub (by omega)) (xb_node en hn ⟨vp_in_nI (by omega) (by decide), nm_r (e' := upd lo (n + 1) (nI s)) (by rw [e1]) ⟨i2, i1, i2, nm_r (e' := upd sz d (sz d + (sz (d + 1) + 1))) (by rw [e4, e5, e3]) ⟨i2, i1, i2, nm_r (e' := upd cc d (cc d + cc (d + 1))) (by rw [e4, e5, e3]) (nm_r e2 h)⟩⟩⟩)⟩
theorem xb_bind_l {post : St2 → Prop} {s : Nat} (en : xn = nI n) (hn : n ≤ 16) (h : post (xh, xn, xd, xr, xl, ki, op, ar, lo, sf_sb so (s + 1) (n + 1) (nI s), sz, cc, on, vs, ss, ts, re)) :
    ∀ k i, i + k = n + 1 → s + 1 ≤ i → wX_bindTop_21 post (nI s) xh xn xd xr xl (k + 1) (nI i) ki op ar lo (sf_sb so (s + 1) i (nI s)) sz cc on vs ss ts re := by
  intro k
  induction k with
  | zero =>
    intro i hi hs
    have : i = n + 1 := by omega
    subst this
    exact br_t (by rw [en]; exact nI_lt (by omega) (by omega)) h
  | succ k ih =>
    intro i hi hs
    have e1 : (nI i).toNatClampNeg = i := nI_clamp (by omega)
    have hin : vp_in (nI i) 17 := vp_in_nI (by omega) (by decide)
    refine br_f (by rw [en]; exact nI_nlt (by omega) (by omega)) ⟨hin, ?_⟩
    rw [e1, sf_sb_m]
    refine br_c (fun z => ⟨hin, nm_r (sf_sb_t hs z) (nm_r (nI_1 i) (ih (i + 1) (by omega) (by omega)))⟩) (fun z => nm_r (nI_1 i) ?_)
    rw [sf_sb_f z]
    exact ih (i + 1) (by omega) (by omega)
theorem xb_bind {post : St2 → Prop} {s : Nat} (en : xn = nI n) (ed : xd = nI (d + 1)) (hn : n ≤ 16) (hd : d + 1 ≤ n) (hs : s ≤ n) (hz : sz d = nI (n - s)) (h : post (xh, xn, xd, xr, xl, ki, op, ar, lo, sf_sb so (s + 1) (n + 1) (nI s), sz, cc, on, vs, ss, ts, re)) : wpX_bindTop post (xh, xn, xd, xr, xl, ki, op, ar, lo, so, sz, cc, on, vs, ss, ts, re) := by
  have e1 : xd - 1 = nI d := by rw [ed, nI_pred]
  have e2 : (nI d).toNatClampNeg = d := nI_clamp (by omega)
  have := xb_bind_l en hn h (n - s) (s + 1) (by omega) (by omega)
  rw [sf_sb_0] at this
  exact And.intro (pk_in d 16 (by omega) e1) (nm_r (e' := nI s) (by rw [e1, e2, hz, en]; exact sn_sub (by omega)) (nm_r (nI_1 s) ⟨_, this⟩))
end XB
end
section
/-! what both objects keep alike, and the building calls -/
def px_I (xn xd : Int32) (ki op ar lo so sz cc on : Nat → Int32) : Prop :=
  ∃ (n d : Nat) (K st sc R : Nat → Nat) (A B : Nat → Int32), sf_PF n d K st sc R ∧ xn = nI n ∧ xd = nI d ∧ (∀ p, p < n → sf_XN ki op ar lo so A B K st sc p) ∧ sf_src n K B ∧ sf_SK sz cc on d K sc R
def px_R (xn xd : Int32) (ki op ar lo so sz cc on : Nat → Int32) (W : (Int32 → St2 → Prop) → St2 → Prop) : Prop :=
  ∃ (r xn' xd' : Int32) (ki' op' ar' lo' so' sz' cc' on' : Nat → Int32), px_I xn' xd' ki' op' ar' lo' so' sz' cc' on' ∧
    ∀ (post : Int32 → St2 → Prop) (xh xr xl : Int32) (vs ss ts re : Nat → Int32), post r (xh, xn', xd', xr, xl, ki', op', ar', lo', so', sz', cc', on', vs, ss, ts, re) → W post (xh, xn, xd, xr, xl, ki, op, ar, lo, so, sz, cc, on, vs, ss, ts, re)
theorem px_src_add {n k b : Nat} {K : Nat → Nat} {B : Nat → Int32} (h : sf_src n K B) (hb : k ≤ 1 → b ≤ 6) {v : Int32} (ev : k ≤ 1 → v = nI b) : sf_src (n + 1) (sf_u K n k) (upd B n v) := by
  intro p hp hk
  by_cases e : p = n
  · subst e
    rw [sf_us] at hk
    exact ⟨b, hb hk, by rw [pk_us, ev hk]⟩
  · rw [sf_un' e] at hk
    rw [pk_un e]
    exact h p (by omega) hk
theorem px_k8 {n p : Nat} {K st : Nat → Nat} (w : sf_WF n K st) (hp : p < n) : K p ≤ 8 := by
  rcases w p hp with ⟨k, _⟩ | ⟨_, k, _⟩ | ⟨_, k, _⟩ <;> omega
section PX
variable {xh xn xd xr xl : Int32} {ki op ar lo so sz cc on vs ss ts re : Nat → Int32}
theorem px_same {W : (Int32 → St2 → Prop) → St2 → Prop} (I : px_I xn xd ki op ar lo so sz cc on) (r : Int32) (h : ∀ (post : Int32 → St2 → Prop) (xh xr xl : Int32) (vs ss ts re : Nat → Int32), post r (xh, xn, xd, xr, xl, ki, op, ar, lo, so, sz, cc, on, vs, ss, ts, re) → W post (xh, xn, xd, xr, xl, ki, op, ar, lo, so, sz, cc, on, vs, ss, ts, re)) : px_R xn xd ki op ar lo so sz cc on W :=
  ⟨r, xn, xd, ki, op, ar, lo, so, sz, cc, on, I, h⟩
theorem px_src {W : (Int32 → St2 → Prop) → St2 → Prop} {k : Nat} {a b o : Int32} (I : px_I xn xd ki op ar lo so sz cc on) (hk : k ≤ 1) (ho : o = if k = 1 then 1 else 0) (hn' : vp_nar .boolean o = o)
    (hW : ∀ (post : Int32 → St2 → Prop) (xh xr xl : Int32) (vs ss ts re : Nat → Int32), ((xn = 16 → post 3 (xh, xn, xd, xr, xl, ki, op, ar, lo, so, sz, cc, on, vs, ss, ts, re)) ∧ (¬ xn = 16 → wpX_clamp (fun r_2 => wpX_pushSource (fun u => match u with | (xh, xn, xd, xr, xl, ki, op, ar, lo, so, sz, cc, on, vs, ss, ts, re) => post 0 (xh, xn, xd, xr, xl, ki, op, ar, lo, so, sz, cc, on, vs, ss, ts, re)) (xh, xn, xd, xr, xl, ki, op, ar, lo, so, sz, cc, on, vs, ss, ts, re) (nI k) r_2 a o) () b 0 6)) → W post (xh, xn, xd, xr, xl, ki, op, ar, lo, so, sz, cc, on, vs, ss, ts, re)) : px_R xn xd ki op ar lo so sz cc on W := by
  obtain ⟨n, d, K, st, sc, R, A, B, P, E2, E4, E5, E7, E8⟩ := I
  have hn := P.1
  have hd := sf_d_le P
  by_cases g : n = 16
  · refine px_same ⟨n, d, K, st, sc, R, A, B, P, E2, E4, E5, E7, E8⟩ 3 (fun post xh xr xl vs ss ts re h => hW post xh xr xl vs ss ts re (pk_eq n 16 (fun _ => h) (fun g' => absurd g g') E2))
  · refine ⟨0, nI (n + 1), nI (d + 1), upd ki (n + 1) (nI k), upd op (n + 1) (nI (min b.toNatClampNeg 6)), upd ar (n + 1) a, lo, upd so (n + 1) 0, upd sz d 1, upd cc d 0, upd on d o, ?_, fun post xh xr xl vs ss ts re h => hW post xh xr xl vs ss ts re (pk_eq n 16 (fun g' => absurd g' g) (fun _ => xu_clamp (m := 6) (by decide) (xb_push E2 E4 (by omega) (by omega) hn' h)) E2)⟩
    refine ⟨n + 1, d + 1, sf_u K n k, sf_u st n n, sf_u sc n 0, sf_u R (d + 1) (n + 1), upd A n a, upd B n (nI (min b.toNatClampNeg 6)), sf_PF1 P (by omega) hk, rfl, rfl, fun p hp => ?_, px_src_add (b := min b.toNatClampNeg 6) E7 (fun _ => Nat.min_le_right _ _) (fun _ => rfl), sf_SK1 P hk ho E8⟩
    by_cases e : p = n
    · subst e
      exact sf_XN_new (fun _ => ⟨rfl, rfl⟩) (fun g => by omega) (fun g => by omega) (fun g => by omega) (fun g => by omega)
    · exact sf_XN_old (by omega) (E5 p (by omega)) (E5 p (by omega)).2.1
theorem px_range (I : px_I xn xd ki op ar lo so sz cc on) (a b : Int32) : px_R xn xd ki op ar lo so sz cc on (fun post u => wpX_range post u a b) :=
  px_src (k := 0) I (by decide) rfl rl_b0 (fun post xh xr xl vs ss ts re h => h)
theorem px_inner (I : px_I xn xd ki op ar lo so sz cc on) (a b : Int32) : px_R xn xd ki op ar lo so sz cc on (fun post u => wpX_inner post u a b) :=
  px_src (k := 1) I (by decide) rfl rl_b1 (fun post xh xr xl vs ss ts re h => h)
theorem px_ext {k : Nat} {a b : Int32} (I : px_I xn xd ki op ar lo so sz cc on) (hk : 2 ≤ k) (hk' : k ≤ 6) : px_R xn xd ki op ar lo so sz cc on (fun post u => wpX_extendTop post u (nI k) a b) := by
  have I' := I
  obtain ⟨n, d, K, st, sc, R, A, B, P, E2, E4, E5, E7, E8⟩ := I
  have hn := P.1
  have hd := sf_d_le P
  by_cases g0 : d = 0
  · exact px_same I' 2 (fun post xh xr xl vs ss ts re h => xb_ext E2 E4 hn hd (fun _ => h) (fun z => absurd g0 z) (fun e z => by omega))
  by_cases g : n = 16
  · exact px_same I' 3 (fun post xh xr xl vs ss ts re h => xb_ext E2 E4 hn hd (fun z => absurd z g0) (fun _ _ => h) (fun e _ z => by omega))
  obtain ⟨e, rfl⟩ : ∃ e, d = e + 1 := ⟨d - 1, by omega⟩
  refine ⟨0, nI (n + 1), xd, upd ki (n + 1) (nI k), upd op (n + 1) a, upd ar (n + 1) b, lo, upd so (n + 1) 0, upd sz e (sz e + 1), cc, on, ?_, fun post xh xr xl vs ss ts re h => xb_ext E2 E4 hn hd (fun z => absurd z g0) (fun _ z => absurd z g) (fun e' z _ => ?_)⟩
  · by_cases k4 : k = 4 ∨ k = 5
    · refine ⟨n + 1, e + 1, sf_u K n k, sf_u st n (R e), sf_u sc n 0, sf_u R (e + 1) (n + 1), upd A n b, upd B n 0, sf_PF2 P (by omega) hk hk', rfl, E4, fun p hp => ?_, px_src_add (b := 0) E7 (fun g => by omega) (fun g => by omega), sf_SK2 P hk hk' E8⟩
      by_cases ep : p = n
      · subst ep
        exact sf_XN_new (fun g => by omega) (fun g => by omega) (fun _ => rfl) (fun g => by omega) (fun g => by omega)
      · exact sf_XN_old (by omega) (E5 p (by omega)) (E5 p (by omega)).2.1
    · refine ⟨n + 1, e + 1, sf_u K n k, sf_u st n (R e), sf_u sc n 0, sf_u R (e + 1) (n + 1), upd A n a, upd B n b, sf_PF2 P (by omega) hk hk', rfl, E4, fun p hp => ?_, px_src_add (b := 0) E7 (fun g => by omega) (fun g => by omega), sf_SK2 P hk hk' E8⟩
      by_cases ep : p = n
      · subst ep
        exact sf_XN_new (fun g => by omega) (fun _ => ⟨rfl, rfl⟩) (fun g => absurd g k4) (fun g => by omega) (fun g => by omega)
      · exact sf_XN_old (by omega) (E5 p (by omega)) (E5 p (by omega)).2.1
  · have : e' = e := by omega
    subst this
    exact h
theorem px_op3 {W : (Int32 → St2 → Prop) → St2 → Prop} {k : Nat} {mx a b : Int32} (I : px_I xn xd ki op ar lo so sz cc on) (hk : 2 ≤ k) (hk' : k ≤ 6)
    (hW : ∀ (post : Int32 → St2 → Prop) (xh xr xl : Int32) (vs ss ts re : Nat → Int32), ((a < 0 → post 1 (xh, xn, xd, xr, xl, ki, op, ar, lo, so, sz, cc, on, vs, ss, ts, re)) ∧ (¬ a < 0 → ((a ≤ mx → wpX_extendTop (fun r_3 u => match u with | (xh, xn, xd, xr, xl, ki, op, ar, lo, so, sz, cc, on, vs, ss, ts, re) => post r_3 (xh, xn, xd, xr, xl, ki, op, ar, lo, so, sz, cc, on, vs, ss, ts, re)) (xh, xn, xd, xr, xl, ki, op, ar, lo, so, sz, cc, on, vs, ss, ts, re) (nI k) a b) ∧ (¬ a ≤ mx → post 1 (xh, xn, xd, xr, xl, ki, op, ar, lo, so, sz, cc, on, vs, ss, ts, re))))) → W post (xh, xn, xd, xr, xl, ki, op, ar, lo, so, sz, cc, on, vs, ss, ts, re)) : px_R xn xd ki op ar lo so sz cc on W := by
  by_cases h : a < 0
  · exact px_same I 1 (fun post xh xr xl vs ss ts re h' => hW post xh xr xl vs ss ts re (br_t h h'))
  by_cases h8 : a ≤ mx
  · obtain ⟨r, xn', xd', ki', op', ar', lo', so', sz', cc', on', J, H⟩ := px_ext (a := a) (b := b) I hk hk'
    exact ⟨r, xn', xd', ki', op', ar', lo', so', sz', cc', on', J, fun post xh xr xl vs ss ts re h' => hW post xh xr xl vs ss ts re (br_f h (br_t h8 (H _ xh xr xl vs ss ts re h')))⟩
  · exact px_same I 1 (fun post xh xr xl vs ss ts re h' => hW post xh xr xl vs ss ts re (br_f h (br_f h8 h')))
theorem px_map (I : px_I xn xd ki op ar lo so sz cc on) (a b : Int32) : px_R xn xd ki op ar lo so sz cc on (fun post u => wpX_map post u a b) :=
  px_op3 (k := 2) I (by decide) (by decide) (fun post xh xr xl vs ss ts re h => h)
theorem px_filter (I : px_I xn xd ki op ar lo so sz cc on) (a b : Int32) : px_R xn xd ki op ar lo so sz cc on (fun post u => wpX_filter post u a b) :=
  px_op3 (k := 3) I (by decide) (by decide) (fun post xh xr xl vs ss ts re h => h)
theorem px_scan (I : px_I xn xd ki op ar lo so sz cc on) (a b : Int32) : px_R xn xd ki op ar lo so sz cc on (fun post u => wpX_scan post u a b) :=
  px_op3 (k := 6) I (by decide) (by decide) (fun post xh xr xl vs ss ts re h => h)
theorem px_take (I : px_I xn xd ki op ar lo so sz cc on) (a : Int32) : px_R xn xd ki op ar lo so sz cc on (fun post u => wpX_take post u a) := by
  obtain ⟨r, xn', xd', ki', op', ar', lo', so', sz', cc', on', J, H⟩ := px_ext (k := 4) (a := 0) (b := a) I (by decide) (by decide)
  refine ⟨r, xn', xd', ki', op', ar', lo', so', sz', cc', on', J, fun post xh xr xl vs ss ts re h' => ?_⟩
  dsimp only
  unfold wpX_take
  exact H _ xh xr xl vs ss ts re h'
theorem px_drop (I : px_I xn xd ki op ar lo so sz cc on) (a : Int32) : px_R xn xd ki op ar lo so sz cc on (fun post u => wpX_drop post u a) := by
  obtain ⟨r, xn', xd', ki', op', ar', lo', so', sz', cc', on', J, H⟩ := px_ext (k := 5) (a := 0) (b := a) I (by decide) (by decide)
  refine ⟨r, xn', xd', ki', op', ar', lo', so', sz', cc', on', J, fun post xh xr xl vs ss ts re h' => ?_⟩
  dsimp only
  unfold wpX_drop
  exact H _ xh xr xl vs ss ts re h'
theorem px_zip (I : px_I xn xd ki op ar lo so sz cc on) (v1 : Int32) : px_R xn xd ki op ar lo so sz cc on (fun post u => wpX_zip post u v1) := by
  have I' := I
  obtain ⟨n, d, K, st, sc, R, A, B, P, E2, E4, E5, E7, E8⟩ := I
  have hn := P.1
  have hd := sf_d_le P
  by_cases h : v1 < 0
  · exact px_same I' 1 (fun post xh xr xl vs ss ts re h' => br_t h h')
  by_cases h6 : v1 ≤ 6
  · by_cases g : 2 ≤ d
    · by_cases g6 : n = 16
      · exact px_same I' 3 (fun post xh xr xl vs ss ts re h' => br_f h (br_t h6 (pk_le 2 d (fun _ => pk_eq n 16 (fun _ => h') (fun z => absurd g6 z) E2) (fun z => by omega) rfl E4)))
      · obtain ⟨e, rfl⟩ : ∃ e, d = e + 2 := ⟨d - 2, by omega⟩
        obtain ⟨t1, t2, t3, t4, t5, t6, t7⟩ := sf_sec P
        have i1 : xd - 1 = nI (e + 1) := by rw [E4]; exact nI_pred (e + 1)
        have i2 : xd - 2 = nI e := by rw [E4]; exact sn_sub (a := e + 2) (b := 2) rfl
        have j1 : (nI (e + 1)).toNatClampNeg = e + 1 := nI_clamp (by omega)
        have j2 : (nI e).toNatClampNeg = e := nI_clamp (by omega)
        have s1 := E8 e (by omega)
        have s2 := E8 (e + 1) (by omega)
        have hz : sz (e + 1) = nI (n - R (e + 1)) := by rw [s2.1]; exact congrArg nI (by rw [P.2.2.2.2.2.1])
        have key : ∀ o : Int32, vp_nar .boolean o = o → (on e = 1 ∨ on (e + 1) = 1 → o = 1) ∧ (on e = 0 ∧ on (e + 1) = 0 → o = 0) → (∀ (post : Int32 → St2 → Prop) (xh xr xl : Int32) (vs ss ts re : Nat → Int32), wX_zip_66 post v1 o xh xn xd xr xl ki op ar lo so sz cc on vs ss ts re → wpX_zip post (xh, xn, xd, xr, xl, ki, op, ar, lo, so, sz, cc, on, vs, ss, ts, re) v1) → px_R xn xd ki op ar lo so sz cc on (fun post u => wpX_zip post u v1) := by
          intro o ho1 ho2 hW
          refine ⟨0, nI (n + 1), nI (e + 1), upd ki (n + 1) (nI 7), upd op (n + 1) v1, upd ar (n + 1) 0, upd lo (n + 1) (nI (R (e + 1))), upd so (n + 1) 0, upd sz e (sz e + (sz (e + 1) + 1)), upd cc e (cc e + cc (e + 1)), upd on e o, ?_, fun post xh xr xl vs ss ts re h' => hW post xh xr xl vs ss ts re ?_⟩
          · refine ⟨n + 1, e + 1, sf_u K n 7, sf_u st n (R e), sf_u sc n 0, sf_u R (e + 1) (n + 1), upd A n v1, upd B n 0, sf_PF7 P (by omega), rfl, rfl, fun p hp => ?_, px_src_add (b := 0) E7 (fun g => by omega) (fun g => by omega), sf_SK7 P E8 ho2⟩
            by_cases ep : p = n
            · subst ep
              exact sf_XN_new (fun g => by omega) (fun g => by omega) (fun g => by omega) (fun _ => rfl) (fun _ => ⟨by omega, by rw [pk_us, t3]⟩)
            · exact sf_XN_old (by omega) (sf_XN_lo (by omega) (E5 p (by omega))) (E5 p (by omega)).2.1
          · unfold wX_zip_66
            exact xb_join (s := R (e + 1)) E2 E4 (by omega) hd (by omega) hz ⟨pk_in e 16 (by omega) (nI_pred e), nm_r (e' := upd on e o) (by rw [nI_pred, j2, ho1]) h'⟩
        have head : ∀ (post : Int32 → St2 → Prop) (xh xr xl : Int32) (vs ss ts re : Nat → Int32), (vp_in (xd - 2) 16 ∧ ((on (xd - 2).toNatClampNeg = 0 → (vp_in (xd - 1) 16 ∧ ((on (xd - 1).toNatClampNeg = 0 → wX_zip_66 post v1 0 xh xn xd xr xl ki op ar lo so sz cc on vs ss ts re) ∧ (¬ on (xd - 1).toNatClampNeg = 0 → wX_zip_61 post v1 xh xn xd xr xl ki op ar lo so sz cc on vs ss ts re)))) ∧ (¬ on (xd - 2).toNatClampNeg = 0 → wX_zip_61 post v1 xh xn xd xr xl ki op ar lo so sz cc on vs ss ts re))) → wpX_zip post (xh, xn, xd, xr, xl, ki, op, ar, lo, so, sz, cc, on, vs, ss, ts, re) v1 := by
          intro post xh xr xl vs ss ts re h'
          exact br_f h (br_t h6 (pk_le 2 (e + 2) (fun _ => pk_eq n 16 (fun z => absurd z g6) (fun _ => h') E2) (fun z => by omega) rfl E4))
        by_cases z1 : on e = 0
        · by_cases z2 : on (e + 1) = 0
          · refine key 0 rl_b0 ⟨fun z => ?_, fun _ => rfl⟩ (fun post xh xr xl vs ss ts re h' => head post xh xr xl vs ss ts re ⟨pk_in e 16 (by omega) i2, br_t (by rw [i2, j2]; exact z1) ⟨pk_in (e + 1) 16 (by omega) i1, br_t (by rw [i1, j1]; exact z2) h'⟩⟩)
            rw [z1, z2] at z
            exact absurd z (by decide)
          · exact key 1 rl_b1 ⟨fun _ => rfl, fun z => absurd z.2 z2⟩ (fun post xh xr xl vs ss ts re h' => head post xh xr xl vs ss ts re ⟨pk_in e 16 (by omega) i2, br_t (by rw [i2, j2]; exact z1) ⟨pk_in (e + 1) 16 (by omega) i1, br_f (by rw [i1, j1]; exact z2) h'⟩⟩)
        · exact key 1 rl_b1 ⟨fun _ => rfl, fun z => absurd z.1 z1⟩ (fun post xh xr xl vs ss ts re h' => head post xh xr xl vs ss ts re ⟨pk_in e 16 (by omega) i2, br_f (by rw [i2, j2]; exact z1) h'⟩)
    · exact px_same I' 2 (fun post xh xr xl vs ss ts re h' => br_f h (br_t h6 (pk_le 2 d (fun z => by omega) (fun _ => h') rfl E4)))
  · exact px_same I' 1 (fun post xh xr xl vs ss ts re h' => br_f h (br_f h6 h'))
theorem px_concatMap (I : px_I xn xd ki op ar lo so sz cc on) : px_R xn xd ki op ar lo so sz cc on (fun post u => wpX_concatMap post u) := by
  have I' := I
  obtain ⟨n, d, K, st, sc, R, A, B, P, E2, E4, E5, E7, E8⟩ := I
  have hn := P.1
  have hd := sf_d_le P
  by_cases g : 2 ≤ d
  · by_cases g6 : n = 16
    · exact px_same I' 3 (fun post xh xr xl vs ss ts re h' => pk_le 2 d (fun _ => pk_eq n 16 (fun _ => h') (fun z => absurd g6 z) E2) (fun z => by omega) rfl E4)
    · obtain ⟨e, rfl⟩ : ∃ e, d = e + 2 := ⟨d - 2, by omega⟩
      obtain ⟨t1, t2, t3, t4, t5, t6, t7⟩ := sf_sec P
      have i1 : xd - 1 = nI (e + 1) := by rw [E4]; exact nI_pred (e + 1)
      have i2 : xd - 2 = nI e := by rw [E4]; exact sn_sub (a := e + 2) (b := 2) rfl
      have j1 : (nI (e + 1)).toNatClampNeg = e + 1 := nI_clamp (by omega)
      have j2 : (nI e).toNatClampNeg = e := nI_clamp (by omega)
      have s1 := E8 e (by omega)
      have s2 := E8 (e + 1) (by omega)
      have en : R (e + 1 + 1) = n := P.2.2.2.2.2.1
      have hz : sz (e + 1) = nI (n - R (e + 1)) := by rw [s2.1, en]
      have hcn : cc (xd - 2).toNatClampNeg + cc (xd - 1).toNatClampNeg = nI (sf_cn K (R e) n) := by
        rw [i1, i2, j1, j2, s1.2.1, s2.2.1, en, nI_add, sf_cn_add (K := K) (a := R e) (m := R (e + 1)) (by omega) n (by omega)]
      have hcl := sf_cn_le K (R e) n
      by_cases l : sf_cn K (R e) n < 2
      · refine ⟨0, nI (n + 1), nI (e + 1), upd ki (n + 1) (nI 8), upd op (n + 1) 0, upd ar (n + 1) 0, upd lo (n + 1) (nI (R (e + 1))), upd (sf_sb so (R (e + 1) + 1) (n + 1) (nI (R (e + 1)))) (n + 1) 0, upd sz e (sz e + (sz (e + 1) + 1)), upd cc e (cc e + cc (e + 1) + 1), on, ?_, fun post xh xr xl vs ss ts re h' => pk_le 2 (e + 2) (fun _ => pk_eq n 16 (fun z => absurd z g6) (fun _ => ⟨pk_in e 16 (by omega) i2, pk_in (e + 1) 16 (by omega) i1, pk_lt (sf_cn K (R e) n) 2 (fun _ => ?_) (fun z => by omega) hcn rfl⟩) E2) (fun z => by omega) rfl E4⟩
        · refine ⟨n + 1, e + 1, sf_u K n 8, sf_u st n (R e), sf_u (sf_bind sc (R (e + 1)) n) n 0, sf_u R (e + 1) (n + 1), upd A n 0, upd B n 0, sf_PF8 P (by omega) (by omega), rfl, rfl, fun p hp => ?_, px_src_add (b := 0) E7 (fun g => by omega) (fun g => by omega), sf_SK8 P E8⟩
          by_cases ep : p = n
          · subst ep
            exact sf_XN_new (fun g => by omega) (fun g => by omega) (fun g => by omega) (fun _ => rfl) (fun _ => ⟨by omega, by rw [pk_us, t3]⟩)
          · have h1 := P.2.2.1.1 p (by omega)
            have h2 := sf_st_le P.2.1 p (by omega)
            exact sf_XN_old (by omega) (sf_XN_lo (by omega) (E5 p (by omega))) (sf_bindX (by omega) (by omega) (by omega) (E5 p (by omega)).2.1)
        · exact xb_bind (d := e + 1) (s := R (e + 1)) E2 E4 hn (by omega) (by omega) hz (xb_join (s := R (e + 1)) E2 E4 (by omega) hd (by omega) hz ⟨pk_in e 16 (by omega) (nI_pred e), pk_in e 16 (by omega) (nI_pred e), nm_r (e' := upd cc e (cc e + cc (e + 1) + 1)) (by rw [nI_pred, j2, pk_us, sn_upd_upd]) h'⟩)
      · exact px_same I' 4 (fun post xh xr xl vs ss ts re h' => pk_le 2 (e + 2) (fun _ => pk_eq n 16 (fun z => absurd z g6) (fun _ => ⟨pk_in e 16 (by omega) i2, pk_in (e + 1) 16 (by omega) i1, pk_lt (sf_cn K (R e) n) 2 (fun z => by omega) (fun _ => h') hcn rfl⟩) E2) (fun z => by omega) rfl E4)
  · exact px_same I' 2 (fun post xh xr xl vs ss ts re h' => pk_le 2 d (fun z => by omega) (fun _ => h') rfl E4)
theorem px_0 (ki op ar lo so sz cc on : Nat → Int32) : px_I 0 0 ki op ar lo so sz cc on :=
  ⟨0, 0, fun _ => 0, fun _ => 0, fun _ => 0, fun _ => 0, fun _ => 0, fun _ => 0, ⟨by omega, fun p hp => absurd hp (Nat.not_lt_zero p), ⟨fun p hp => absurd hp (Nat.not_lt_zero p), fun c hc => absurd hc (Nat.not_lt_zero _)⟩, fun p hp => absurd hp (Nat.not_lt_zero p), rfl, rfl, fun i hi => absurd hi (Nat.not_lt_zero i)⟩, rfl, rfl, fun p hp => absurd hp (Nat.not_lt_zero p), fun p hp => absurd hp (Nat.not_lt_zero p), fun i hi => absurd hi (Nat.not_lt_zero i)⟩
theorem px_frag (I : px_I xn xd ki op ar lo so sz cc on) (x : Int32) : ∃ r : Int32, ∀ (post : Int32 → Prop) (xh xr xl : Int32) (vs ss ts re : Nat → Int32), post r → wpX_fragment post (xh, xn, xd, xr, xl, ki, op, ar, lo, so, sz, cc, on, vs, ss, ts, re) x := by
  obtain ⟨n, d, K, st, sc, R, A, B, P, E2, E4, E5, E7, E8⟩ := I
  have hn := P.1
  have hd := sf_d_le P
  by_cases h : x < 0
  · exact ⟨-1, fun post xh xr xl vs ss ts re h' => br_t h h'⟩
  by_cases g : x < xd
  · have hin : vp_in x 16 := by
      obtain ⟨j, hj, rfl⟩ := nI_of h
      rw [E4, nI_ltI hj (by omega)] at g
      exact vp_in_nI (by omega) (by decide)
    by_cases z : on x.toNatClampNeg = 0
    · exact ⟨16 * sz x.toNatClampNeg + 2 * cc x.toNatClampNeg + 0, fun post xh xr xl vs ss ts re h' => br_f h (br_t g ⟨hin, hin, hin, br_t z h'⟩)⟩
    · exact ⟨16 * sz x.toNatClampNeg + 2 * cc x.toNatClampNeg + 1, fun post xh xr xl vs ss ts re h' => br_f h (br_t g ⟨hin, hin, hin, br_f z h'⟩)⟩
  · exact ⟨-1, fun post xh xr xl vs ss ts re h' => br_f h (br_f g h')⟩
end PX
end
section
/-! a run of either object: what it answers rests on what both keep alike -/
def pr_G (xn xd : Int32) (ki op ar lo so sz cc on : Nat → Int32) (l : List Int32) (c : Int32) : Prop :=
  l.length ≤ 216 ∧ ∀ (post : Int32 → St2 → Prop) (xh xr xl : Int32) (vs ss ts re : Nat → Int32), vs 0 = 0 → ts 0 = 1 →
    ((∀ vs' ss' ts', vs' 0 = 0 → ts' 0 = 1 → post 0 (xh, xn, xd, nI l.length, 0, ki, op, ar, lo, so, sz, cc, on, vs', ss', ts', sf_ap re 0 l)) → wpX_run post (xh, xn, xd, xr, xl, ki, op, ar, lo, so, sz, cc, on, vs, ss, ts, re) 0) ∧
    ((c ≤ xh → ∀ vs' ss' ts', vs' 0 = 0 → ts' 0 = 1 → post 0 (xh, xn, xd, nI l.length, c, ki, op, ar, lo, so, sz, cc, on, vs', ss', ts', sf_ap re 0 l)) → (¬ c ≤ xh → ∀ vs' ss' ts', vs' 0 = 0 → ts' 0 = 1 → post 7 (xh, xn, xd, 0, 0, ki, op, ar, lo, so, sz, cc, on, vs', ss', ts', re)) → wpX_run post (xh, xn, xd, xr, xl, ki, op, ar, lo, so, sz, cc, on, vs, ss, ts, re) 1)
def pr_N (xn xd : Int32) (ki op ar lo so sz cc on : Nat → Int32) : Prop :=
  ∀ (post : Int32 → St2 → Prop) (xh xr xl : Int32) (vs ss ts re : Nat → Int32) (m : Int32), m = 0 ∨ m = 1 → post 6 (xh, xn, xd, xr, xl, ki, op, ar, lo, so, sz, cc, on, vs, ss, ts, re) → wpX_run post (xh, xn, xd, xr, xl, ki, op, ar, lo, so, sz, cc, on, vs, ss, ts, re) m
section PR
variable {xh xn xd xr xl : Int32} {ki op ar lo so sz cc on vs ss ts re : Nat → Int32}
theorem pr_run (I : px_I xn xd ki op ar lo so sz cc on) : pr_N xn xd ki op ar lo so sz cc on ∨ ∃ l c, pr_G xn xd ki op ar lo so sz cc on l c := by
  obtain ⟨n, d, K, st, sc, R, A, B, P, E2, E4, E5, E7, E8⟩ := I
  have hn := P.1
  have hd := sf_d_le P
  by_cases g : d = 1
  · subst g
    by_cases ho : on 0 = 0
    · right
      obtain ⟨P1, P2, P3, P4, P5, P6, P7⟩ := P
      obtain ⟨q1, q2, q3⟩ := P7 0 (by omega)
      rw [P6, P5] at q1 q2
      rw [P6] at q3
      obtain ⟨L, hL⟩ := sf_exL P2 A B
      obtain ⟨ro, hr⟩ := sf_exR P2 P3 L
      have hb := sf_bnd P2 hL P4 E7 P3 hr (n - 1) (by omega) (by
        rw [q3]
        show 1 * _ ≤ 216
        rw [Nat.one_mul]
        exact sf_216 (sf_g3 K st _))
      have hb' : ∀ q, q < n → (sf_E ro (sc q)).length * 6 ^ sf_g K st q ≤ 216 := fun q hq => hb q (by omega) (by omega)
      have hB : ∀ q, q < n → ((sf_E ro (sc q)).flatMap (L q)).length ≤ 216 := by
        intro q hq
        have := sf_row_le P2 hL P4 E7 hr hq
        rw [hr q hq] at this
        exact Nat.le_trans this (hb' q hq)
      have hE : ∀ q, q < n → (sf_E ro (sc q)).length ≤ 216 := fun q hq => Nat.le_trans (Nat.le_mul_of_pos_right _ (Nat.pow_pos (by omega))) (hb' q hq)
      have HX : xe_H n K st sc A B L ro ki op ar lo so := ⟨P1, P2, hL, P3, E7, hr, hB, hE, E5⟩
      have hlen : (sf_E ro n).length ≤ 216 := by
        obtain ⟨m, rfl⟩ : ∃ m, n = m + 1 := ⟨n - 1, by omega⟩
        show (ro m).length ≤ 216
        rw [hr m (by omega)]
        exact hB m (by omega)
      have hne : ¬ (1 : Int32) = 0 := by decide
      have hne' : ¬ (0 : Int32) = 1 := by decide
      refine ⟨sf_E ro n, nI (sf_rs (fun q => (ro q).length) 0 n), hlen, fun post xh xr xl vs ss ts re g0 g1 => ⟨fun h => br_t rfl (br_t E4 (br_t ho (xe_pipe HX E2 g1 g0 (fun vs' ss' ts' hI => br_f hne' ?_)))), fun h h7 => br_f hne (br_t rfl (br_t E4 (br_t ho (xe_pipe HX E2 g1 g0 (fun vs' ss' ts' hI => br_t rfl (br_c (fun z => ?_) (fun z => h7 z vs' ss' ts' hI.2.1 hI.1)))))))⟩⟩
      · have hXn := sf_XI_E hr (Nat.le_refl n) hI (s := n) (Nat.le_refl n)
        unfold wX_run_62
        exact xe_keep P1 E2 hlen hXn.1 hXn.2 (br_f hne' (h vs' ss' ts' hI.2.1 hI.1))
      · have hXn := sf_XI_E hr (Nat.le_refl n) hI (s := n) (Nat.le_refl n)
        unfold wX_run_62
        exact xe_keep P1 E2 hlen hXn.1 hXn.2 (br_t rfl (h z vs' ss' ts' hI.2.1 hI.1))
    · left
      intro post xh xr xl vs ss ts re m hm h
      rcases hm with rfl | rfl
      · exact br_t rfl (br_t E4 (br_f ho h))
      · exact br_f (by decide) (br_t rfl (br_t E4 (br_f ho h)))
  · left
    have g' : ¬ xd = 1 := by
      rw [E4]
      intro z
      exact g (sn_im (b := 1) z (by omega) (by decide))
    intro post xh xr xl vs ss ts re m hm h
    rcases hm with rfl | rfl
    · exact br_t rfl (br_f g' h)
    · exact br_f (by decide) (br_t rfl (br_f g' h))
end PR
end
section
/-! the law: its loops over the fragments, the checks behind a run -/
section PL
variable {xh xn xd xr xl : Int32} {ki op ar lo so sz cc on vs ss ts re : Nat → Int32}
variable {br bl : Int32} {bv bs bt bw : Nat → Int32} {post : Int32 → Prop} {L kc ks : Nat} {xs : Nat → Int32} {x4 x10 x11 : Int32}
variable {J36 : Int32 → Int32 → Int32 → Int32 → Int32 → Int32 → (Nat → Int32) → (Nat → Int32) → (Nat → Int32) → (Nat → Int32) → (Nat → Int32) → (Nat → Int32) → (Nat → Int32) → (Nat → Int32) → (Nat → Int32) → (Nat → Int32) → (Nat → Int32) → (Nat → Int32) → Int32 → Int32 → Int32 → Int32 → Int32 → (Nat → Int32) → (Nat → Int32) → (Nat → Int32) → (Nat → Int32) → (Nat → Int32) → (Nat → Int32) → (Nat → Int32) → (Nat → Int32) → (Nat → Int32) → (Nat → Int32) → (Nat → Int32) → (Nat → Int32) → Prop}
theorem pl_520_l (I : px_I xn xd ki op ar lo so sz cc on) (h : wL_law_520 post L xs J36 x4 kc ks xh xn xd xr xl ki op ar lo so sz cc on vs ss ts re xh xn xd (br) (bl) ki op ar lo so sz cc on (bv) (bs) (bt) (bw) 1 (nI 17)) :
    ∀ k i, i + k = 17 → wL_law_520 post L xs J36 x4 kc ks xh xn xd xr xl ki op ar lo so sz cc on vs ss ts re xh xn xd (br) (bl) ki op ar lo so sz cc on (bv) (bs) (bt) (bw) (k + 1) (nI i) := by
  intro k
  induction k with
  | zero =>
    intro i hi
    have : i = 17 := by omega
    subst this
    exact h
  | succ k ih =>
    intro i hi
    obtain ⟨r, hr⟩ := px_frag I (nI i)
    exact br_f (nI_nlt (a := 16) (by omega) (by decide)) (hr _ xh xr xl vs ss ts re (hr _ xh br bl bv bs bt bw (br_t rfl (nm_r (nI_1 i) (ih (i + 1) (by omega))))))
theorem pl_573_l (I : px_I xn xd ki op ar lo so sz cc on) (h : wL_law_573 post L xs J36 x4 x10 kc ks xh xn xd xr xl ki op ar lo so sz cc on vs ss ts re xh xn xd (br) (bl) ki op ar lo so sz cc on (bv) (bs) (bt) (bw) 1 (nI 17)) :
    ∀ k i, i + k = 17 → wL_law_573 post L xs J36 x4 x10 kc ks xh xn xd xr xl ki op ar lo so sz cc on vs ss ts re xh xn xd (br) (bl) ki op ar lo so sz cc on (bv) (bs) (bt) (bw) (k + 1) (nI i) := by
  intro k
  induction k with
  | zero =>
    intro i hi
    have : i = 17 := by omega
    subst this
    exact h
  | succ k ih =>
    intro i hi
    obtain ⟨r, hr⟩ := px_frag I (nI i)
    exact br_f (nI_nlt (a := 16) (by omega) (by decide)) (hr _ xh xr xl vs ss ts re (hr _ xh br bl bv bs bt bw (br_t rfl (nm_r (nI_1 i) (ih (i + 1) (by omega))))))
theorem pl_626_l (I : px_I xn xd ki op ar lo so sz cc on) (h : wL_law_626 post L xs J36 x4 x10 x11 kc ks xh xn xd xr xl ki op ar lo so sz cc on vs ss ts re xh xn xd (br) (bl) ki op ar lo so sz cc on (bv) (bs) (bt) (bw) 1 (nI 17)) :
    ∀ k i, i + k = 17 → wL_law_626 post L xs J36 x4 x10 x11 kc ks xh xn xd xr xl ki op ar lo so sz cc on vs ss ts re xh xn xd (br) (bl) ki op ar lo so sz cc on (bv) (bs) (bt) (bw) (k + 1) (nI i) := by
  intro k
  induction k with
  | zero =>
    intro i hi
    have : i = 17 := by omega
    subst this
    exact h
  | succ k ih =>
    intro i hi
    obtain ⟨r, hr⟩ := px_frag I (nI i)
    exact br_f (nI_nlt (a := 16) (by omega) (by decide)) (hr _ xh xr xl vs ss ts re (hr _ xh br bl bv bs bt bw (br_t rfl (nm_r (nI_1 i) (ih (i + 1) (by omega))))))
theorem pl_out {P : Int32 → Prop} {i m : Nat} {v : Int32} (hi : i < m) (hm : m ≤ 216) (hx : xr = nI m) (hv : re i = v) (h : P v) : wpX_out P (xh, xn, xd, xr, xl, ki, op, ar, lo, so, sz, cc, on, vs, ss, ts, re) (nI i) := by
  have e1 : (nI i).toNatClampNeg = i := nI_clamp (by omega)
  refine br_f (nI_pos (by omega)) (br_t (by rw [hx]; exact nI_lt hi (by omega)) ⟨vp_in_nI (by omega) (by decide), ?_⟩)
  rw [e1, hv]
  exact h
theorem pl_759 {l : List Int32} (hl : l.length ≤ 216) (h1 : xr = nI l.length) (h2 : br = nI l.length) (ha : sf_Hd re 0 l) (hb : sf_Hd bw 0 l) (hJ : J36 x4 xh xn xd xr xl ki op ar lo so sz cc on vs ss ts re xh xn xd (br) (bl) ki op ar lo so sz cc on (bv) (bs) (bt) (bw)) :
    ∀ k i, i + k = l.length → wL_law_759 post L xs J36 x4 (nI l.length) kc ks xh xn xd xr xl ki op ar lo so sz cc on vs ss ts re xh xn xd (br) (bl) ki op ar lo so sz cc on (bv) (bs) (bt) (bw) (k + 1) (nI i) := by
  intro k
  induction k with
  | zero =>
    intro i hi
    have : i = l.length := by omega
    subst this
    exact br_t (nI_le (Nat.le_refl _) (by omega)) hJ
  | succ k ih =>
    intro i hi
    obtain ⟨v, hv⟩ := sf_ex (l := l) (i := i) (by omega)
    have a1 := ha i v hv
    have b1 := hb i v hv
    rw [Nat.zero_add] at a1 b1
    exact br_f (nI_ge (by omega) (by omega)) (pl_out (by omega) hl h1 a1 (pl_out (by omega) hl h2 b1 (br_t rfl (nm_r (nI_1 i) (ih (i + 1) (by omega))))))
/-- the checks behind both runs: neither could run -/
theorem pl_fin6 (hJ : J36 x4 xh xn xd xr xl ki op ar lo so sz cc on vs ss ts re xh xn xd (br) (bl) ki op ar lo so sz cc on (bv) (bs) (bt) (bw)) : wL_law_670 post L xs J36 x4 6 6 kc ks xh xn xd xr xl ki op ar lo so sz cc on vs ss ts re xh xn xd (br) (bl) ki op ar lo so sz cc on (bv) (bs) (bt) (bw) := by
  have d1 : ¬ (6 : Int32) = 0 := by decide
  have d2 : ¬ (6 : Int32) = 7 := by decide
  exact br_f d1 (br_f d2 (br_t rfl (br_t rfl (br_t rfl (br_t rfl (br_f d1 (br_f d1 hJ)))))))
theorem pl_fin7 (hc : xl = 0) (hJ : J36 x4 xh xn xd xr xl ki op ar lo so sz cc on vs ss ts re xh xn xd (br) (bl) ki op ar lo so sz cc on (bv) (bs) (bt) (bw)) : wL_law_670 post L xs J36 x4 0 7 kc ks xh xn xd xr xl ki op ar lo so sz cc on vs ss ts re xh xn xd (br) (bl) ki op ar lo so sz cc on (bv) (bs) (bt) (bw) := by
  have d1 : ¬ (7 : Int32) = 0 := by decide
  have d2 : ¬ (0 : Int32) = 6 := by decide
  have d3 : ¬ (7 : Int32) = 6 := by decide
  exact br_f d1 (br_t rfl (br_f d2 (br_f d3 (br_t rfl (br_t rfl (br_t hc (br_f d1 hJ)))))))
theorem pl_fin0 {l : List Int32} (hl : l.length ≤ 216) (hc : xl = 0) (h1 : xr = nI l.length) (h2 : br = nI l.length) (ha : sf_Hd re 0 l) (hb : sf_Hd bw 0 l) (hJ : J36 x4 xh xn xd xr xl ki op ar lo so sz cc on vs ss ts re xh xn xd (br) (bl) ki op ar lo so sz cc on (bv) (bs) (bt) (bw)) : wL_law_670 post L xs J36 x4 0 0 kc ks xh xn xd xr xl ki op ar lo so sz cc on vs ss ts re xh xn xd (br) (bl) ki op ar lo so sz cc on (bv) (bs) (bt) (bw) := by
  have d2 : ¬ (0 : Int32) = 6 := by decide
  have key := pl_759 (post := post) (L := L) (xs := xs) (kc := kc) (ks := ks) hl h1 h2 ha hb hJ l.length 0 (by omega)
  rw [← h2] at key
  exact br_t rfl (br_f d2 (br_f d2 (br_t rfl (br_t rfl (br_t hc (br_t rfl (br_t (h1.trans h2.symm) ⟨_, key⟩)))))))
theorem pl_626 {r1 r2 : Int32} (I : px_I xn xd ki op ar lo so sz cc on) (h1 : r1 = 0 ∨ r1 = 6) (h : wL_law_670 post L xs J36 x4 r1 r2 kc ks xh xn xd xr xl ki op ar lo so sz cc on vs ss ts re xh xn xd (br) (bl) ki op ar lo so sz cc on (bv) (bs) (bt) (bw)) : ∃ f : Nat, wL_law_626 post L xs J36 x4 r1 r2 kc ks xh xn xd xr xl ki op ar lo so sz cc on vs ss ts re xh xn xd (br) (bl) ki op ar lo so sz cc on (bv) (bs) (bt) (bw) f 0 := by
  refine ⟨18, pl_626_l I ?_ 17 0 (by omega)⟩
  refine br_t (by decide) ?_
  rcases h1 with rfl | rfl
  · exact br_t rfl h
  · exact br_f (by decide) (br_t rfl h)
theorem pl_495 {r : Int32} (I : px_I xn xd ki op ar lo so sz cc on) (g1 : vs 0 = 0) (g2 : ts 0 = 1) (g3 : bv 0 = 0) (g4 : bt 0 = 1)
    (hJ : ∀ (xr xl br bl : Int32) (vs ss ts re bv bs bt bw : Nat → Int32), vs 0 = 0 → ts 0 = 1 → bv 0 = 0 → bt 0 = 1 → J36 x4 xh xn xd xr xl ki op ar lo so sz cc on vs ss ts re xh xn xd (br) (bl) ki op ar lo so sz cc on (bv) (bs) (bt) (bw)) : wL_law_495 post L xs J36 x4 r r kc ks xh xn xd xr xl ki op ar lo so sz cc on vs ss ts re xh xn xd (br) (bl) ki op ar lo so sz cc on (bv) (bs) (bt) (bw) := by
  refine br_t rfl (br_t rfl ⟨18, pl_520_l I (br_t (by decide) ?_) 17 0 (by omega)⟩)
  rcases pr_run I with N | ⟨l, c, hl, G⟩
  · refine N _ xh xr xl vs ss ts re 0 (Or.inl rfl) (br_t rfl ⟨18, pl_573_l I (br_t (by decide) ?_) 17 0 (by omega)⟩)
    exact N _ xh br bl bv bs bt bw 1 (Or.inr rfl) (br_t rfl (pl_626 I (Or.inr rfl) (pl_fin6 (hJ _ _ _ _ _ _ _ _ _ _ _ _ g1 g2 g3 g4))))
  · refine (G _ xh xr xl vs ss ts re g1 g2).1 (fun vs' ss' ts' a1 a2 => br_t rfl ⟨18, pl_573_l I (br_t (by decide) ?_) 17 0 (by omega)⟩)
    refine (G _ xh br bl bv bs bt bw g3 g4).2 (fun z bv' bs' bt' b1 b2 => br_t rfl (pl_626 I (Or.inl rfl) (pl_fin0 hl rfl rfl rfl (sf_ap_hd _ _ _) (sf_ap_hd _ _ _) (hJ _ _ _ _ _ _ _ _ _ _ _ _ a1 a2 b1 b2)))) (fun z bv' bs' bt' b1 b2 => br_t rfl (pl_626 I (Or.inl rfl) (pl_fin7 rfl (hJ _ _ _ _ _ _ _ _ _ _ _ _ a1 a2 b1 b2))))
end PL
end
section
/-! the law's turns -/
theorem pt_cell (xs : Nat → Int32) {L p : Nat} (hL : L < 2 ^ 31) (hp : p < 2 ^ 31) : ∃ r : Int32, ∀ post : Int32 → Prop, post r → wpL_cell post L xs () (nI p) := by
  have e : (nI p).toNatClampNeg = p := nI_clamp hp
  by_cases g : L ≤ p
  · exact ⟨0, fun post h => br_t (nI_le g hp) h⟩
  · refine ⟨xs p, fun post h => br_f (nI_ge (by omega) hL) ⟨vp_in_nI (by omega) hL, ?_⟩⟩
    rw [e]
    exact h
theorem pt_mod {post : Int32 → Prop} {v m : Int32} (hm : ¬ m = 0) (h : post (sf_ilx m v)) : wpL_mod post () v m := And.intro hm (And.intro hm h)
theorem pt_small (v : Int32) : ∃ r : Int32, ∀ post : Int32 → Prop, post r → wpL_small post () v := by
  by_cases g : (v &&& 256) = 0
  · exact ⟨sf_ilx 41 v - 20, fun post h => br_t g (pt_mod (by decide) h)⟩
  · exact ⟨v, fun post h => br_f g h⟩
section PT
variable {xh xn xd xr xl : Int32} {ki op ar lo so sz cc on vs ss ts re : Nat → Int32}
variable {br bl : Int32} {bv bs bt bw : Nat → Int32} {post : Int32 → Prop} {L kc ks f p : Nat} {xs : Nat → Int32}
theorem pt_step (I : px_I xn xd ki op ar lo so sz cc on) (hL : L ≤ 260) (hp : p < L) (g1 : vs 0 = 0) (g2 : ts 0 = 1) (g3 : bv 0 = 0) (g4 : bt 0 = 1)
    (hJ : ∀ (xh xn xd xr xl br bl : Int32) (ki op ar lo so sz cc on vs ss ts re bv bs bt bw : Nat → Int32), px_I xn xd ki op ar lo so sz cc on → vs 0 = 0 → ts 0 = 1 → bv 0 = 0 → bt 0 = 1 → wL_law_36 post L xs kc ks f (nI (p + 3)) xh xn xd xr xl ki op ar lo so sz cc on vs ss ts re xh xn xd (br) (bl) ki op ar lo so sz cc on (bv) (bs) (bt) (bw)) : wL_law_36 post L xs kc ks (f + 1) (nI p) xh xn xd xr xl ki op ar lo so sz cc on vs ss ts re xh xn xd (br) (bl) ki op ar lo so sz cc on (bv) (bs) (bt) (bw) := by
  obtain ⟨c0, h0⟩ := pt_cell xs (L := L) (p := p) (by omega) (by omega)
  obtain ⟨x, hx⟩ := pt_cell xs (L := L) (p := p + 1) (by omega) (by omega)
  obtain ⟨y, hy⟩ := pt_cell xs (L := L) (p := p + 2) (by omega) (by omega)
  obtain ⟨sx, hsx⟩ := pt_small x
  obtain ⟨sy, hsy⟩ := pt_small y
  have e1 : nI p + 1 = nI (p + 1) := nI_1 p
  have e2 : nI p + 2 = nI (p + 2) := nI_add p 2
  have e3 : nI p + 3 = nI (p + 3) := nI_add p 3
  have m8 : ¬ (8 : Int32) = 0 := by decide
  have m9 : ¬ (9 : Int32) = 0 := by decide
  have m10 : ¬ (10 : Int32) = 0 := by decide
  refine br_f (nI_ge hp (by omega)) (h0 _ (pt_mod (by decide) ?_))
  rw [e1, e2]
  refine hx _ (hy _ (nm_r e3 ?_))
  refine br_c (fun _ => br_c (fun _ => ?_) (fun _ => br_c (fun _ => br_c (fun _ => ?_) (fun _ => br_c (fun _ => ?_) (fun _ => br_c (fun _ => ?_) (fun _ => br_c (fun _ => ?_) (fun _ => br_c (fun _ => br_c (fun _ => br_c (fun _ => ?_) (fun _ => ?_)) (fun _ => ?_)) (fun _ => ?_)))))) (fun _ => ?_))) (fun _ => ?_)
  · obtain ⟨r, xn', xd', ki', op', ar', lo', so', sz', cc', on', J, H⟩ := px_inner I sx (sf_ilx 8 y)
    exact hsx _ (pt_mod m8 (H _ xh xr xl vs ss ts re (hsx _ (pt_mod m8 (H _ xh br bl bv bs bt bw (pl_495 J g1 g2 g3 g4 (fun _ _ _ _ _ _ _ _ _ _ _ _ a1 a2 a3 a4 => hJ _ _ _ _ _ _ _ _ _ _ _ _ _ _ _ _ _ _ _ _ _ _ _ J a1 a2 a3 a4)))))))
  · obtain ⟨r, xn', xd', ki', op', ar', lo', so', sz', cc', on', J, H⟩ := px_filter I (sf_ilx 8 x) sy
    exact pt_mod m8 (hsy _ (H _ xh xr xl vs ss ts re (pt_mod m8 (hsy _ (H _ xh br bl bv bs bt bw (pl_495 J g1 g2 g3 g4 (fun _ _ _ _ _ _ _ _ _ _ _ _ a1 a2 a3 a4 => hJ _ _ _ _ _ _ _ _ _ _ _ _ _ _ _ _ _ _ _ _ _ _ _ J a1 a2 a3 a4)))))))
  · obtain ⟨r, xn', xd', ki', op', ar', lo', so', sz', cc', on', J, H⟩ := px_take I (sf_ilx 9 x - 1)
    exact pt_mod m9 (H _ xh xr xl vs ss ts re (pt_mod m9 (H _ xh br bl bv bs bt bw (pl_495 J g1 g2 g3 g4 (fun _ _ _ _ _ _ _ _ _ _ _ _ a1 a2 a3 a4 => hJ _ _ _ _ _ _ _ _ _ _ _ _ _ _ _ _ _ _ _ _ _ _ _ J a1 a2 a3 a4)))))
  · obtain ⟨r, xn', xd', ki', op', ar', lo', so', sz', cc', on', J, H⟩ := px_drop I (sf_ilx 9 x - 1)
    exact pt_mod m9 (H _ xh xr xl vs ss ts re (pt_mod m9 (H _ xh br bl bv bs bt bw (pl_495 J g1 g2 g3 g4 (fun _ _ _ _ _ _ _ _ _ _ _ _ a1 a2 a3 a4 => hJ _ _ _ _ _ _ _ _ _ _ _ _ _ _ _ _ _ _ _ _ _ _ _ J a1 a2 a3 a4)))))
  · obtain ⟨r, xn', xd', ki', op', ar', lo', so', sz', cc', on', J, H⟩ := px_scan I (sf_ilx 8 x) sy
    exact pt_mod m8 (hsy _ (H _ xh xr xl vs ss ts re (pt_mod m8 (hsy _ (H _ xh br bl bv bs bt bw (pl_495 J g1 g2 g3 g4 (fun _ _ _ _ _ _ _ _ _ _ _ _ a1 a2 a3 a4 => hJ _ _ _ _ _ _ _ _ _ _ _ _ _ _ _ _ _ _ _ _ _ _ _ J a1 a2 a3 a4)))))))
  · have J := px_0 ki op ar lo so sz cc on
    exact (pl_495 J g1 g2 g3 g4 (fun _ _ _ _ _ _ _ _ _ _ _ _ a1 a2 a3 a4 => hJ _ _ _ _ _ _ _ _ _ _ _ _ _ _ _ _ _ _ _ _ _ _ _ J a1 a2 a3 a4))
  · obtain ⟨r, xn', xd', ki', op', ar', lo', so', sz', cc', on', J, H⟩ := px_zip I (sf_ilx 8 x)
    exact pt_mod m8 (H _ xh xr xl vs ss ts re (pt_mod m8 (H _ xh br bl bv bs bt bw (pl_495 J g1 g2 g3 g4 (fun _ _ _ _ _ _ _ _ _ _ _ _ a1 a2 a3 a4 => hJ _ _ _ _ _ _ _ _ _ _ _ _ _ _ _ _ _ _ _ _ _ _ _ J a1 a2 a3 a4)))))
  · obtain ⟨r, xn', xd', ki', op', ar', lo', so', sz', cc', on', J, H⟩ := px_concatMap I
    exact H _ xh xr xl vs ss ts re (H _ xh br bl bv bs bt bw (pl_495 J g1 g2 g3 g4 (fun _ _ _ _ _ _ _ _ _ _ _ _ a1 a2 a3 a4 => hJ _ _ _ _ _ _ _ _ _ _ _ _ _ _ _ _ _ _ _ _ _ _ _ J a1 a2 a3 a4)))
  · obtain ⟨r, xn', xd', ki', op', ar', lo', so', sz', cc', on', J, H⟩ := px_zip I (sf_ilx 8 x)
    exact pt_mod m8 (H _ xh xr xl vs ss ts re (pt_mod m8 (H _ xh br bl bv bs bt bw (pl_495 J g1 g2 g3 g4 (fun _ _ _ _ _ _ _ _ _ _ _ _ a1 a2 a3 a4 => hJ _ _ _ _ _ _ _ _ _ _ _ _ _ _ _ _ _ _ _ _ _ _ _ J a1 a2 a3 a4)))))
  · obtain ⟨r, xn', xd', ki', op', ar', lo', so', sz', cc', on', J, H⟩ := px_map I (sf_ilx 10 x) sy
    exact pt_mod m10 (hsy _ (H _ xh xr xl vs ss ts re (pt_mod m10 (hsy _ (H _ xh br bl bv bs bt bw (pl_495 J g1 g2 g3 g4 (fun _ _ _ _ _ _ _ _ _ _ _ _ a1 a2 a3 a4 => hJ _ _ _ _ _ _ _ _ _ _ _ _ _ _ _ _ _ _ _ _ _ _ _ J a1 a2 a3 a4)))))))
  · obtain ⟨r, xn', xd', ki', op', ar', lo', so', sz', cc', on', J, H⟩ := px_range I sx (sf_ilx 8 y)
    exact hsx _ (pt_mod m8 (H _ xh xr xl vs ss ts re (hsx _ (pt_mod m8 (H _ xh br bl bv bs bt bw (pl_495 J g1 g2 g3 g4 (fun _ _ _ _ _ _ _ _ _ _ _ _ a1 a2 a3 a4 => hJ _ _ _ _ _ _ _ _ _ _ _ _ _ _ _ _ _ _ _ _ _ _ _ J a1 a2 a3 a4)))))))
end PT
theorem pt_loop {post : Int32 → Prop} {L kc ks : Nat} {xs : Nat → Int32} (hL : L ≤ 260) (h1 : post 1) : ∀ (f p : Nat), L ≤ p + 3 * f → p < 1000 → ∀ (xh xn xd xr xl br bl : Int32) (ki op ar lo so sz cc on vs ss ts re bv bs bt bw : Nat → Int32), px_I xn xd ki op ar lo so sz cc on → vs 0 = 0 → ts 0 = 1 → bv 0 = 0 → bt 0 = 1 → wL_law_36 post L xs kc ks (f + 1) (nI p) xh xn xd xr xl ki op ar lo so sz cc on vs ss ts re xh xn xd (br) (bl) ki op ar lo so sz cc on (bv) (bs) (bt) (bw) := by
  intro f
  induction f with
  | zero =>
    intro p hp hp' xh xn xd xr xl br bl ki op ar lo so sz cc on vs ss ts re bv bs bt bw I g1 g2 g3 g4
    exact br_t (nI_le (by omega) (by omega)) h1
  | succ f ih =>
    intro p hp hp' xh xn xd xr xl br bl ki op ar lo so sz cc on vs ss ts re bv bs bt bw I g1 g2 g3 g4
    by_cases g : L ≤ p
    · exact br_t (nI_le g (by omega)) h1
    · exact pt_step I hL (by omega) g1 g2 g3 g4 (fun xh xn xd xr xl br bl ki op ar lo so sz cc on vs ss ts re bv bs bt bw J a1 a2 a3 a4 => ih (p + 3) (by omega) (by omega) xh xn xd xr xl br bl ki op ar lo so sz cc on vs ss ts re bv bs bt bw J a1 a2 a3 a4)
end
section
/-! the owed statement -/
theorem pt_clamp (v : Int32) : ∃ r : Int32, ∀ post : Int32 → Prop, post r → wpX_clamp post () v 8 256 := by
  by_cases h8 : 8 ≤ v
  · by_cases h : v ≤ 256
    · exact ⟨v, fun post g => br_t h8 (br_t h g)⟩
    · exact ⟨256, fun post g => br_t h8 (br_f h g)⟩
  · exact ⟨8, fun post g => br_f h8 g⟩
theorem pt_init {post : St2 → Prop} {u : St1} {v r : Int32} (hr : ∀ post : Int32 → Prop, post r → wpX_clamp post () v 8 256) (h : post (r, 0, 0, 0, 0, (fun _ => 0), (fun _ => 0), (fun _ => 0), (fun _ => 0), (fun _ => 0), (fun _ => 0), (fun _ => 0), (fun _ => 0), (fun _ => 0), (fun _ => 0), upd (fun _ => 0) 0 1, (fun _ => 0))) : wpX_init post 12 9110 u v := by
  obtain ⟨u1, u2, u3, u4, u5⟩ := u
  refine And.intro (by decide) (And.intro (by decide) (And.intro (by decide) (And.intro (by decide) (And.intro (by decide) (And.intro (by decide) (And.intro (by decide) (And.intro (by decide) (And.intro (by decide) (And.intro (by decide) (And.intro (by decide) (And.intro (by decide) (And.intro (by decide) (And.intro (by decide) (And.intro (by decide) (And.intro (by decide) (And.intro (by decide) (And.intro (by decide) (And.intro (by decide) (And.intro (by decide) (And.intro (by decide) (And.intro (by decide) (And.intro (by decide) (And.intro (by decide) ?_)))))))))))))))))))))))
  exact hr _ (nm_e h)
theorem i_vc (xs : Nat → Int32) (L : Nat) (hL : L ≤ 260) : wpL_law (fun r => r = 1) L xs := by
  obtain ⟨c0, h0⟩ := pt_cell xs (L := L) (p := 0) (by omega) (by omega)
  obtain ⟨r, hr⟩ := pt_clamp (sf_ilx 300 c0 - 12)
  unfold wpL_law
  refine h0 _ (pt_mod (by decide) (nm_e ⟨12, 9110, by decide, by decide, pt_init hr ⟨by decide, by decide, 12, 9110, by decide, by decide, pt_init hr ⟨101, ?_⟩⟩⟩))
  refine pt_loop (post := fun r => r = 1) hL rfl 100 1 (by omega) (by omega) _ _ _ _ _ _ _ _ _ _ _ _ _ _ _ _ _ _ _ _ _ _ _ (px_0 _ _ _ _ _ _ _ _) ?_ ?_ ?_ ?_
  all_goals rfl
end

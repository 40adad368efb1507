/-! the program as a forest: kinds K, starts of fragments st, scopes sc -/
def sf_ok (K st : Nat → Nat) (p : Nat) : Prop :=
  (K p ≤ 1 ∧ st p = p) ∨ (2 ≤ K p ∧ K p ≤ 6 ∧ 1 ≤ p ∧ st p = st (p - 1)) ∨ (7 ≤ K p ∧ K p ≤ 8 ∧ 1 ≤ p ∧ 1 ≤ st (p - 1) ∧ st p = st (st (p - 1) - 1))
def sf_WF (n : Nat) (K st : Nat → Nat) : Prop := ∀ p, p < n → sf_ok K st p
theorem sf_st_le {n : Nat} {K st : Nat → Nat} (w : sf_WF n K st) : ∀ p, p < n → st p ≤ p := by
  intro p
  induction p using Nat.strongRecOn with
  | ind p ih =>
    intro hp
    rcases w p hp with ⟨_, h⟩ | ⟨_, _, h1, h⟩ | ⟨_, _, h1, h2, h⟩
    · omega
    · have := ih (p - 1) (by omega) (by omega)
      omega
    · have a := ih (p - 1) (by omega) (by omega)
      have b := ih (st (p - 1) - 1) (by omega) (by omega)
      omega
/-- induction over the fragments -/
theorem sf_ind {n : Nat} {K st : Nat → Nat} (w : sf_WF n K st) (Q : Nat → Prop)
    (hs : ∀ p, p < n → K p ≤ 1 → st p = p → Q p)
    (hu : ∀ c, c + 1 < n → 2 ≤ K (c + 1) → K (c + 1) ≤ 6 → st (c + 1) = st c → Q c → Q (c + 1))
    (hz : ∀ c a, c + 1 < n → K (c + 1) = 7 → st c = a + 1 → a + 1 ≤ c → st (c + 1) = st a → Q a → Q c → Q (c + 1))
    (hc : ∀ c a, c + 1 < n → K (c + 1) = 8 → st c = a + 1 → a + 1 ≤ c → st (c + 1) = st a → Q a → Q c → Q (c + 1)) :
    ∀ p, p < n → Q p := by
  intro p
  induction p using Nat.strongRecOn with
  | ind p ih =>
    intro hp
    rcases w p hp with ⟨k, h⟩ | ⟨k, k', h1, h⟩ | ⟨k, k', h1, h2, h⟩
    · exact hs p hp k h
    · obtain ⟨c, rfl⟩ : ∃ c, p = c + 1 := ⟨p - 1, by omega⟩
      rw [Nat.add_sub_cancel] at h
      exact hu c hp k k' h (ih c (by omega) (by omega))
    · obtain ⟨c, rfl⟩ : ∃ c, p = c + 1 := ⟨p - 1, by omega⟩
      rw [Nat.add_sub_cancel] at h h2
      obtain ⟨a, ha⟩ : ∃ a, st c = a + 1 := ⟨st c - 1, by omega⟩
      have hl := sf_st_le w c (by omega)
      rw [ha, Nat.add_sub_cancel] at h
      by_cases k8 : K (c + 1) = 8
      · exact hc c a hp k8 ha (by omega) h (ih a (by omega) (by omega)) (ih c (by omega) (by omega))
      · exact hz c a hp (by omega) ha (by omega) h (ih a (by omega) (by omega)) (ih c (by omega) (by omega))
/-- fragments lie within each other or apart -/
theorem sf_lam {n : Nat} {K st : Nat → Nat} (w : sf_WF n K st) : ∀ p, p < n → ∀ q, st p ≤ q → q ≤ p → st p ≤ st q := by
  refine sf_ind w _ ?_ ?_ ?_ ?_
  · intro p hp k h q h1 h2
    have : q = p := by omega
    rw [this]; exact Nat.le_refl _
  · intro c hc k k' h ih q h1 h2
    by_cases e : q = c + 1
    · rw [e]; exact Nat.le_refl _
    · rw [h] at h1 ⊢; exact ih q h1 (by omega)
  all_goals
    intro c a hc k ha hac h iha ihc q h1 h2
    have la := sf_st_le w a (by omega)
    by_cases e : q = c + 1
    · rw [e]; exact Nat.le_refl _
    · by_cases e2 : q ≤ a
      · rw [h] at h1 ⊢; exact iha q h1 e2
      · have := ihc q (by omega) (by omega)
        omega
/-- a concatMap is known by the start of its inner fragment -/
theorem sf_uniq {n : Nat} {K st : Nat → Nat} (w : sf_WF n K st) {c d : Nat} (hc : c + 1 < n) (hd : d + 1 < n) (kc : K (c + 1) = 8) (kd : K (d + 1) = 8) (e : st c = st d) : c = d := by
  have key : ∀ c d, c + 1 < n → d + 1 < n → K (c + 1) = 8 → st c = st d → c < d → False := by
    intro c d hc hd kc e h
    rcases w (c + 1) hc with ⟨k, _⟩ | ⟨_, k, _⟩ | ⟨_, _, _, h2, h3⟩
    · omega
    · omega
    · rw [Nat.add_sub_cancel] at h2 h3
      have l1 := sf_st_le w c (by omega)
      have l2 := sf_st_le w (st c - 1) (by omega)
      have := sf_lam w d (by omega) (c + 1) (by omega) (by omega)
      omega
  rcases Nat.lt_trichotomy c d with h | h | h
  · exact (key c d hc hd kc e h).elim
  · exact h
  · exact (key d c hd hc kd e.symm h).elim
/-- no concatMap begins at a place that is no fragment's start -/
theorem sf_st_st {n : Nat} {K st : Nat → Nat} (w : sf_WF n K st) : ∀ p, p < n → st (st p) = st p ∧ K (st p) ≤ 1 := by
  refine sf_ind w _ ?_ ?_ ?_ ?_
  · intro p hp k h; rw [h]; exact ⟨h, k⟩
  · intro c hc k k' h ih; rw [h]; exact ih
  · intro c a hc k ha hac h iha ihc; rw [h]; exact iha
  · intro c a hc k ha hac h iha ihc; rw [h]; exact iha
theorem sf_no2 {n : Nat} {K st : Nat → Nat} (w : sf_WF n K st) {p c : Nat} (hp : p < n) (k : 2 ≤ K p) (hc : c < n) : st c ≠ p := by
  intro e
  have := (sf_st_st w c hc).2
  rw [e] at this
  omega
/-- where the second child of a zip begins no concatMap begins -/
theorem sf_noz {n : Nat} {K st : Nat → Nat} (w : sf_WF n K st) {c a d : Nat} (hc : c + 1 < n) (k : K (c + 1) = 7) (ha : st c = a + 1) (hd : d + 1 < n) (kd : K (d + 1) = 8) : st d ≠ st c := by
  intro e
  have lc := sf_st_le w c (by omega)
  have la := sf_st_le w a (by omega)
  have ld := sf_st_le w d (by omega)
  have hc' : st (c + 1) = st a := by
    rcases w (c + 1) hc with ⟨k, _⟩ | ⟨_, k, _⟩ | ⟨_, _, _, h2, h3⟩
    · omega
    · omega
    · rw [Nat.add_sub_cancel, ha, Nat.add_sub_cancel] at h3; exact h3
  have hd' : st (d + 1) = st a := by
    rcases w (d + 1) hd with ⟨k, _⟩ | ⟨_, k, _⟩ | ⟨_, _, _, h2, h3⟩
    · omega
    · omega
    · rw [Nat.add_sub_cancel, e, ha, Nat.add_sub_cancel] at h3; exact h3
  rcases Nat.lt_trichotomy c d with h | h | h
  · have := sf_lam w d (by omega) (c + 1) (by omega) (by omega)
    omega
  · subst h; omega
  · have := sf_lam w c (by omega) (d + 1) (by omega) (by omega)
    omega
/-- a concatMap whose inner fragment begins at or ahead of a fragment does not lie in it -/
theorem sf_out {n : Nat} {K st : Nat → Nat} (w : sf_WF n K st) {p d : Nat} (hp : p < n) (hd : d + 1 < n) (kd : K (d + 1) = 8) (e : st d ≤ st p) : d + 1 < st p ∨ p < d + 1 := by
  rcases w (d + 1) hd with ⟨k, _⟩ | ⟨_, k, _⟩ | ⟨_, _, _, h2, h3⟩
  · omega
  · omega
  · rw [Nat.add_sub_cancel] at h2 h3
    have ld := sf_st_le w d (by omega)
    have l2 := sf_st_le w (st d - 1) (by omega)
    by_cases h : d + 1 < st p
    · exact Or.inl h
    · by_cases h' : p < d + 1
      · exact Or.inr h'
      · have := sf_lam w p hp (d + 1) (by omega) (by omega)
        omega
/-! the concatMaps between two places -/
def sf_cn (K : Nat → Nat) (a : Nat) : Nat → Nat
  | 0 => 0
  | b + 1 => sf_cn K a b + if a ≤ b ∧ K b = 8 then 1 else 0
theorem sf_cn_s (K : Nat → Nat) (a b : Nat) : sf_cn K a (b + 1) = sf_cn K a b + if a ≤ b ∧ K b = 8 then 1 else 0 := rfl
theorem sf_cn_0 {K : Nat → Nat} {a : Nat} : ∀ b, b ≤ a → sf_cn K a b = 0 := by
  intro b
  induction b with
  | zero => intro _; rfl
  | succ b ih =>
    intro h
    rw [sf_cn_s, ih (by omega), if_neg (by omega)]
theorem sf_cn_add {K : Nat → Nat} {a m : Nat} (h : a ≤ m) : ∀ b, m ≤ b → sf_cn K a b = sf_cn K a m + sf_cn K m b := by
  intro b
  induction b with
  | zero =>
    intro hb
    have : m = 0 := by omega
    subst this
    rfl
  | succ b ih =>
    intro hb
    by_cases e : m = b + 1
    · rw [← e, sf_cn_0 m (Nat.le_refl _)]; rfl
    · rw [sf_cn_s, sf_cn_s, ih (by omega)]
      by_cases k : K b = 8
      · rw [if_pos ⟨by omega, k⟩, if_pos ⟨by omega, k⟩]; omega
      · rw [if_neg (by omega), if_neg (by omega)]; omega
theorem sf_cn_congr {K K' : Nat → Nat} {a : Nat} : ∀ b, (∀ q, q < b → K q = K' q) → sf_cn K a b = sf_cn K' a b := by
  intro b
  induction b with
  | zero => intro _; rfl
  | succ b ih =>
    intro h
    rw [sf_cn_s, sf_cn_s, ih (fun q hq => h q (by omega)), h b (by omega)]
/-- the exponent of a node's longest list -/
def sf_g (K st : Nat → Nat) (p : Nat) : Nat := if sf_cn K (st p) (p + 1) ≤ 2 then 1 + sf_cn K (st p) (p + 1) else 3
theorem sf_g3 (K st : Nat → Nat) (p : Nat) : sf_g K st p ≤ 3 := by
  unfold sf_g; split <;> omega
theorem sf_g_u {K st : Nat → Nat} {c : Nat} (h : st (c + 1) = st c) (k : K (c + 1) ≠ 8) : sf_g K st (c + 1) = sf_g K st c := by
  have e : (if st c ≤ c + 1 ∧ K (c + 1) = 8 then 1 else 0) = 0 := if_neg (by omega)
  unfold sf_g
  rw [h, sf_cn_s K (st c) (c + 1), e, Nat.add_zero]
theorem sf_g_z {K st : Nat → Nat} {c a : Nat} (ha : st c = a + 1) (hac : a + 1 ≤ c) (h : st (c + 1) = st a) (hl : st a ≤ a) : sf_g K st a ≤ sf_g K st (c + 1) ∧ sf_g K st c ≤ sf_g K st (c + 1) := by
  have e : sf_cn K (st a) (c + 1 + 1) = sf_cn K (st a) (a + 1) + sf_cn K (a + 1) (c + 1 + 1) := sf_cn_add (by omega) _ (by omega)
  have e2 := sf_cn_s K (a + 1) (c + 1)
  unfold sf_g
  rw [h, ha]
  constructor
  · split <;> split <;> omega
  · split <;> split <;> omega
theorem sf_g_c {K st : Nat → Nat} {c a : Nat} (k : K (c + 1) = 8) (ha : st c = a + 1) (hac : a + 1 ≤ c) (h : st (c + 1) = st a) (hl : st a ≤ a) (lim : sf_cn K (st (c + 1)) (c + 1 + 1) ≤ 2) : sf_g K st (c + 1) = sf_g K st a + sf_g K st c := by
  have e : sf_cn K (st a) (c + 1 + 1) = sf_cn K (st a) (a + 1) + sf_cn K (a + 1) (c + 1 + 1) := sf_cn_add (by omega) _ (by omega)
  have e2 := sf_cn_s K (a + 1) (c + 1)
  rw [if_pos ⟨by omega, k⟩] at e2
  unfold sf_g
  rw [h] at lim ⊢
  rw [ha, if_pos lim, if_pos (by omega), if_pos (by omega)]
  omega

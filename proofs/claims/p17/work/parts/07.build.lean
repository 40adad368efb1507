/-! building: the forest and the stack of its fragments, R their starts -/
def sf_u (f : Nat → Nat) (k v : Nat) : Nat → Nat := fun j => if j = k then v else f j
theorem sf_us {f : Nat → Nat} {k v : Nat} : sf_u f k v k = v := if_pos rfl
theorem sf_un' {f : Nat → Nat} {k v j : Nat} (h : j ≠ k) : sf_u f k v j = f j := if_neg h
def sf_PF (n d : Nat) (K st sc R : Nat → Nat) : Prop :=
  n ≤ 16 ∧ sf_WF n K st ∧ sf_scp n K st sc ∧ sf_lim n K st ∧ R 0 = 0 ∧ R d = n ∧ ∀ i, i < d → R i < R (i + 1) ∧ st (R (i + 1) - 1) = R i ∧ sc (R (i + 1) - 1) = 0
theorem sf_R_lt {n d : Nat} {K st sc R : Nat → Nat} (h : sf_PF n d K st sc R) : ∀ j i, i < j → j ≤ d → R i < R j := by
  intro j
  induction j with
  | zero => intro i hi; omega
  | succ j ih =>
    intro i hi hj
    have := (h.2.2.2.2.2.2 j (by omega)).1
    by_cases e : i = j
    · rw [e]; exact this
    · have := ih i (by omega) (by omega)
      omega
theorem sf_R_ge {n d : Nat} {K st sc R : Nat → Nat} (h : sf_PF n d K st sc R) : ∀ i, i ≤ d → i ≤ R i := by
  intro i
  induction i with
  | zero => intro _; omega
  | succ i ih =>
    intro hi
    have := (h.2.2.2.2.2.2 i (by omega)).1
    have := ih (by omega)
    omega
theorem sf_R_le {n d : Nat} {K st sc R : Nat → Nat} (h : sf_PF n d K st sc R) {i : Nat} (hi : i ≤ d) : R i ≤ n := by
  have e := h.2.2.2.2.2.1
  by_cases e2 : i = d
  · rw [e2]; omega
  · have := sf_R_lt h d i (by omega) (by omega)
    omega
theorem sf_d_le {n d : Nat} {K st sc R : Nat → Nat} (h : sf_PF n d K st sc R) : d ≤ n := by
  have := sf_R_ge h d (Nat.le_refl _)
  have e := h.2.2.2.2.2.1
  omega
theorem sf_WF_add {n k s : Nat} {K st : Nat → Nat} (w : sf_WF n K st)
    (h : (k ≤ 1 ∧ s = n) ∨ (2 ≤ k ∧ k ≤ 6 ∧ 1 ≤ n ∧ s = st (n - 1)) ∨ (7 ≤ k ∧ k ≤ 8 ∧ 1 ≤ n ∧ 1 ≤ st (n - 1) ∧ s = st (st (n - 1) - 1))) : sf_WF (n + 1) (sf_u K n k) (sf_u st n s) := by
  intro p hp
  unfold sf_ok
  by_cases e : p = n
  · subst e
    rw [sf_us, sf_us]
    rcases h with h | ⟨h1, h2, h3, h4⟩ | ⟨h1, h2, h3, h4, h5⟩
    · exact Or.inl h
    · rw [sf_un' (by omega)]
      exact Or.inr (Or.inl ⟨h1, h2, h3, h4⟩)
    · have := sf_st_le w (p - 1) (by omega)
      rw [sf_un' (j := p - 1) (by omega), sf_un' (j := st (p - 1) - 1) (by omega)]
      exact Or.inr (Or.inr ⟨h1, h2, h3, h4, h5⟩)
  · rw [sf_un' e, sf_un' e]
    rcases w p (by omega) with h | ⟨h1, h2, h3, h4⟩ | ⟨h1, h2, h3, h4, h5⟩
    · exact Or.inl h
    · rw [sf_un' (by omega)]
      exact Or.inr (Or.inl ⟨h1, h2, h3, h4⟩)
    · have := sf_st_le w (p - 1) (by omega)
      rw [sf_un' (j := p - 1) (by omega), sf_un' (j := st (p - 1) - 1) (by omega)]
      exact Or.inr (Or.inr ⟨h1, h2, h3, h4, h5⟩)
theorem sf_scp_add {n k s : Nat} {K st sc : Nat → Nat} (w : sf_WF n K st) (h : sf_scp n K st sc)
    (h1 : 2 ≤ k → k ≤ 6 → 1 ≤ n → sc (n - 1) = 0) (h2 : ∀ a, 1 ≤ n → st (n - 1) = a + 1 → k = 7 → sc (n - 1) = 0 ∧ sc a = 0) (h3 : ∀ a, 1 ≤ n → st (n - 1) = a + 1 → k = 8 → sc (n - 1) = a + 1 ∧ sc a = 0) : sf_scp (n + 1) (sf_u K n k) (sf_u st n s) (sf_u sc n 0) := by
  refine ⟨fun p hp => ?_, fun c hc => ?_⟩
  · by_cases e : p = n
    · subst e; rw [sf_us]; exact Nat.zero_le _
    · rw [sf_un' e, sf_un' e]; exact h.1 p (by omega)
  · by_cases e : c + 1 = n
    · subst e
      rw [Nat.add_sub_cancel] at h1 h2 h3
      rw [sf_us, sf_us, sf_un' (j := c) (by omega), sf_un' (j := c) (by omega)]
      have := sf_st_le w c (by omega)
      refine ⟨fun g1 g2 => h1 g1 g2 (by omega), fun a ea g => ?_, fun a ea g => ?_⟩
      · rw [sf_un' (by omega)]; exact h2 a (by omega) ea g
      · rw [sf_un' (by omega)]; exact h3 a (by omega) ea g
    · have := sf_st_le w c (by omega)
      rw [sf_un' (j := c + 1) e, sf_un' (j := c) (by omega), sf_un' (j := c + 1) e, sf_un' (j := c) (by omega)]
      obtain ⟨g1, g2, g3⟩ := h.2 c (by omega)
      refine ⟨g1, fun a ea g => ?_, fun a ea g => ?_⟩
      · rw [sf_un' (by omega)]; exact g2 a ea g
      · rw [sf_un' (by omega)]; exact g3 a ea g
theorem sf_cn_u {K : Nat → Nat} {n k a b : Nat} (h : b ≤ n) : sf_cn (sf_u K n k) a b = sf_cn K a b :=
  sf_cn_congr b (fun q hq => sf_un' (by omega))
theorem sf_cn_u1 {K : Nat → Nat} {n k a : Nat} : sf_cn (sf_u K n k) a (n + 1) = sf_cn K a n + if a ≤ n ∧ k = 8 then 1 else 0 := by
  rw [sf_cn_s, sf_cn_u (Nat.le_refl _), sf_us]
theorem sf_lim_add {n k s : Nat} {K st : Nat → Nat} (h : sf_lim n K st) (h1 : k = 8 → sf_cn K s n ≤ 1) : sf_lim (n + 1) (sf_u K n k) (sf_u st n s) := by
  intro p hp hk
  by_cases e : p = n
  · subst e
    rw [sf_us] at hk
    rw [sf_us, sf_cn_u1]
    have := h1 hk
    split <;> omega
  · rw [sf_un' e] at hk
    rw [sf_un' e, sf_cn_u (by omega)]
    exact h p (by omega) hk
/-- a source -/
theorem sf_PF1 {n d k : Nat} {K st sc R : Nat → Nat} (h : sf_PF n d K st sc R) (hn : n < 16) (hk : k ≤ 1) : sf_PF (n + 1) (d + 1) (sf_u K n k) (sf_u st n n) (sf_u sc n 0) (sf_u R (d + 1) (n + 1)) := by
  obtain ⟨p1, p2, p3, p4, p5, p6, p7⟩ := h
  refine ⟨by omega, sf_WF_add p2 (Or.inl ⟨hk, rfl⟩), sf_scp_add p2 p3 (by omega) (by omega) (by omega), sf_lim_add p4 (by omega), ?_, sf_us, fun i hi => ?_⟩
  · rw [sf_un' (by omega)]; exact p5
  · have hR := sf_R_le ⟨p1, p2, p3, p4, p5, p6, p7⟩ (i := i) (by omega)
    by_cases e : i = d
    · subst e
      rw [sf_us, sf_un' (by omega), p6, Nat.add_sub_cancel, sf_us, sf_us]
      exact ⟨by omega, rfl, rfl⟩
    · obtain ⟨q1, q2, q3⟩ := p7 i (by omega)
      have hR' := sf_R_le ⟨p1, p2, p3, p4, p5, p6, p7⟩ (i := i + 1) (by omega)
      rw [sf_un' (j := i) (by omega), sf_un' (j := i + 1) (by omega), sf_un' (by omega), sf_un' (by omega)]
      exact ⟨q1, q2, q3⟩
/-- a node that takes in the top fragments from d on: sources apart -/
theorem sf_PFj {n d k : Nat} {K st sc sc' R : Nat → Nat} (h : sf_PF n (d + 1) K st sc R) (hn : n < 16) (hw : sf_WF (n + 1) (sf_u K n k) (sf_u st n (R d))) (hs : sf_scp (n + 1) (sf_u K n k) (sf_u st n (R d)) (sf_u sc' n 0)) (hl : sf_lim (n + 1) (sf_u K n k) (sf_u st n (R d))) (hc : ∀ q, q < R d → sc' q = sc q) : sf_PF (n + 1) (d + 1) (sf_u K n k) (sf_u st n (R d)) (sf_u sc' n 0) (sf_u R (d + 1) (n + 1)) := by
  have hRd := sf_R_le h (i := d) (by omega)
  have hlt := sf_R_lt h
  obtain ⟨p1, p2, p3, p4, p5, p6, p7⟩ := h
  refine ⟨by omega, hw, hs, hl, ?_, sf_us, fun i hi => ?_⟩
  · rw [sf_un' (by omega)]; exact p5
  · by_cases e : i = d
    · subst e
      rw [sf_us, sf_un' (by omega), Nat.add_sub_cancel, sf_us, sf_us]
      exact ⟨by omega, rfl, rfl⟩
    · obtain ⟨q1, q2, q3⟩ := p7 i (by omega)
      have hR' : R (i + 1) ≤ R d := by
        by_cases e2 : i + 1 = d
        · rw [e2]; exact Nat.le_refl _
        · exact Nat.le_of_lt (hlt d (i + 1) (by omega) (by omega))
      rw [sf_un' (j := i) (by omega), sf_un' (j := i + 1) (by omega), sf_un' (by omega), sf_un' (by omega), hc _ (by omega)]
      exact ⟨q1, q2, q3⟩
theorem sf_top {n d : Nat} {K st sc R : Nat → Nat} (h : sf_PF n (d + 1) K st sc R) : 1 ≤ n ∧ st (n - 1) = R d ∧ sc (n - 1) = 0 ∧ R d < n := by
  obtain ⟨p1, p2, p3, p4, p5, p6, p7⟩ := h
  obtain ⟨q1, q2, q3⟩ := p7 d (by omega)
  rw [p6] at q1 q2 q3
  exact ⟨by omega, q2, q3, q1⟩
theorem sf_PF2 {n d k : Nat} {K st sc R : Nat → Nat} (h : sf_PF n (d + 1) K st sc R) (hn : n < 16) (hk : 2 ≤ k) (hk' : k ≤ 6) : sf_PF (n + 1) (d + 1) (sf_u K n k) (sf_u st n (R d)) (sf_u sc n 0) (sf_u R (d + 1) (n + 1)) := by
  obtain ⟨t1, t2, t3, t4⟩ := sf_top h
  refine sf_PFj h hn (sf_WF_add h.2.1 (Or.inr (Or.inl ⟨hk, hk', t1, t2.symm⟩))) (sf_scp_add h.2.1 h.2.2.1 (fun _ _ _ => t3) (by omega) (by omega)) (sf_lim_add h.2.2.2.1 (by omega)) (fun _ _ => rfl)
theorem sf_sec {n d : Nat} {K st sc R : Nat → Nat} (h : sf_PF n (d + 2) K st sc R) : 1 ≤ R (d + 1) ∧ R (d + 1) < n ∧ st (n - 1) = R (d + 1) ∧ st (R (d + 1) - 1) = R d ∧ sc (n - 1) = 0 ∧ sc (R (d + 1) - 1) = 0 ∧ R d < R (d + 1) := by
  obtain ⟨t1, t2, t3, t4⟩ := sf_top (d := d + 1) h
  obtain ⟨q1, q2, q3⟩ := h.2.2.2.2.2.2 d (by omega)
  exact ⟨by omega, t4, t2, q2, t3, q3, q1⟩
/-- dropping the top fragment's own place: the stack below it, with the same nodes -/
theorem sf_PFj2 {n d k : Nat} {K st sc sc' R : Nat → Nat} (h : sf_PF n (d + 2) K st sc R) (hn : n < 16) (hw : sf_WF (n + 1) (sf_u K n k) (sf_u st n (R d))) (hs : sf_scp (n + 1) (sf_u K n k) (sf_u st n (R d)) (sf_u sc' n 0)) (hl : sf_lim (n + 1) (sf_u K n k) (sf_u st n (R d))) (hc : ∀ q, q < R d → sc' q = sc q) : sf_PF (n + 1) (d + 1) (sf_u K n k) (sf_u st n (R d)) (sf_u sc' n 0) (sf_u R (d + 1) (n + 1)) := by
  have hRd := sf_R_le h (i := d) (by omega)
  have hlt := sf_R_lt h
  obtain ⟨p1, p2, p3, p4, p5, p6, p7⟩ := h
  refine ⟨by omega, hw, hs, hl, ?_, sf_us, fun i hi => ?_⟩
  · rw [sf_un' (by omega)]; exact p5
  · by_cases e : i = d
    · subst e
      rw [sf_us, sf_un' (by omega), Nat.add_sub_cancel, sf_us, sf_us]
      exact ⟨by omega, rfl, rfl⟩
    · obtain ⟨q1, q2, q3⟩ := p7 i (by omega)
      have hR' : R (i + 1) ≤ R d := by
        by_cases e2 : i + 1 = d
        · rw [e2]; exact Nat.le_refl _
        · exact Nat.le_of_lt (hlt d (i + 1) (by omega) (by omega))
      rw [sf_un' (j := i) (by omega), sf_un' (j := i + 1) (by omega), sf_un' (by omega), sf_un' (by omega), hc _ (by omega)]
      exact ⟨q1, q2, q3⟩
theorem sf_PF7 {n d : Nat} {K st sc R : Nat → Nat} (h : sf_PF n (d + 2) K st sc R) (hn : n < 16) : sf_PF (n + 1) (d + 1) (sf_u K n 7) (sf_u st n (R d)) (sf_u sc n 0) (sf_u R (d + 1) (n + 1)) := by
  obtain ⟨t1, t2, t3, t4, t5, t6, t7⟩ := sf_sec h
  refine sf_PFj2 h hn (sf_WF_add h.2.1 (Or.inr (Or.inr ⟨by omega, by omega, by omega, by omega, by rw [t3, t4]⟩))) (sf_scp_add h.2.1 h.2.2.1 (by omega) (fun a _ ea _ => ?_) (by omega)) (sf_lim_add h.2.2.2.1 (by omega)) (fun _ _ => rfl)
  rw [t3] at ea
  rw [ea, Nat.add_sub_cancel] at t6
  exact ⟨t5, t6⟩
def sf_bind (sc : Nat → Nat) (s n : Nat) : Nat → Nat := fun q => if s ≤ q ∧ q < n ∧ sc q = 0 then s else sc q
theorem sf_scp_bind {n s : Nat} {K st sc : Nat → Nat} (w : sf_WF n K st) (h : sf_scp n K st sc) (hs : 1 ≤ s) (hn : 1 ≤ n) (hst : st (n - 1) = s) : sf_scp n K st (sf_bind sc s n) := by
  have hlam : ∀ q, s ≤ q → q < n → s ≤ st q := by
    intro q h1 h2
    have := sf_lam w (n - 1) (by omega) q (by omega) (by omega)
    omega
  have hin : ∀ c, c + 1 < n → 2 ≤ K (c + 1) → (s ≤ c + 1 ↔ s ≤ c) := by
    intro c hc k
    constructor
    · intro g
      have g1 := hlam (c + 1) g hc
      rcases w (c + 1) hc with ⟨k', _⟩ | ⟨_, _, _, e⟩ | ⟨_, _, _, e1, e⟩
      · omega
      · rw [Nat.add_sub_cancel] at e
        have := sf_st_le w c (by omega)
        omega
      · rw [Nat.add_sub_cancel] at e e1
        have := sf_st_le w c (by omega)
        have := sf_st_le w (st c - 1) (by omega)
        omega
    · intro g; omega
  have hin2 : ∀ c a, c + 1 < n → 7 ≤ K (c + 1) → st c = a + 1 → (s ≤ c + 1 ↔ s ≤ a) := by
    intro c a hc k ea
    have lc := sf_st_le w c (by omega)
    constructor
    · intro g
      have g1 := hlam (c + 1) g hc
      rcases w (c + 1) hc with ⟨k', _⟩ | ⟨_, k', _⟩ | ⟨_, _, _, e1, e⟩
      · omega
      · omega
      · rw [Nat.add_sub_cancel, ea, Nat.add_sub_cancel] at e
        have := sf_st_le w a (by omega)
        omega
    · intro g; omega
  refine ⟨fun p hp => ?_, fun c hc => ⟨fun k k' => ?_, fun a ea k => ?_, fun a ea k => ?_⟩⟩
  · unfold sf_bind
    split
    · rename_i g; exact hlam p g.1 g.2.1
    · exact h.1 p hp
  · have e := (h.2 c hc).1 k k'
    have i := hin c hc k
    unfold sf_bind
    rw [e]
    by_cases g : s ≤ c ∧ sc (c + 1) = 0
    · rw [if_pos ⟨g.1, by omega, g.2⟩, if_pos ⟨by omega, hc, g.2⟩]
    · rw [if_neg (by omega), if_neg (by omega)]
  · have e := (h.2 c hc).2.1 a ea k
    have i := hin c hc (by omega)
    have i2 := hin2 c a hc (by omega) ea
    have lc := sf_st_le w c (by omega)
    unfold sf_bind
    rw [e.1, e.2]
    by_cases g : s ≤ c ∧ sc (c + 1) = 0
    · rw [if_pos ⟨g.1, by omega, g.2⟩, if_pos ⟨by omega, hc, g.2⟩, if_pos ⟨by omega, by omega, g.2⟩]
      exact ⟨rfl, rfl⟩
    · rw [if_neg (by omega), if_neg (by omega), if_neg (by omega)]
      exact ⟨rfl, rfl⟩
  · have e := (h.2 c hc).2.2 a ea k
    have i2 := hin2 c a hc (by omega) ea
    have lc := sf_st_le w c (by omega)
    unfold sf_bind
    rw [e.1, e.2, if_neg (by omega)]
    refine ⟨rfl, ?_⟩
    by_cases g : s ≤ a ∧ sc (c + 1) = 0
    · rw [if_pos ⟨g.1, by omega, g.2⟩, if_pos ⟨by omega, hc, g.2⟩]
    · rw [if_neg (by omega), if_neg (by omega)]
theorem sf_PF8 {n d : Nat} {K st sc R : Nat → Nat} (h : sf_PF n (d + 2) K st sc R) (hn : n < 16) (hl : sf_cn K (R d) n ≤ 1) : sf_PF (n + 1) (d + 1) (sf_u K n 8) (sf_u st n (R d)) (sf_u (sf_bind sc (R (d + 1)) n) n 0) (sf_u R (d + 1) (n + 1)) := by
  obtain ⟨t1, t2, t3, t4, t5, t6, t7⟩ := sf_sec h
  have hb := sf_scp_bind h.2.1 h.2.2.1 t1 (by omega) t3
  refine sf_PFj2 h hn (sf_WF_add h.2.1 (Or.inr (Or.inr ⟨by omega, by omega, by omega, by omega, by rw [t3, t4]⟩))) (sf_scp_add h.2.1 hb (by omega) (by omega) (fun a _ ea _ => ?_)) (sf_lim_add h.2.2.2.1 (fun _ => hl)) (fun q hq => ?_)
  · rw [t3] at ea
    rw [ea, Nat.add_sub_cancel] at t6
    unfold sf_bind
    rw [if_pos ⟨by omega, by omega, t5⟩, if_neg (by omega)]
    exact ⟨ea, t6⟩
  · unfold sf_bind
    rw [if_neg (by omega)]
/-! the stack of the component -/
def sf_opn (K sc : Nat → Nat) (a b : Nat) : Prop := ∃ q, a ≤ q ∧ q < b ∧ K q = 1 ∧ sc q = 0
def sf_SK (sz cc op : Nat → Int32) (d : Nat) (K sc R : Nat → Nat) : Prop :=
  ∀ i, i < d → sz i = nI (R (i + 1) - R i) ∧ cc i = nI (sf_cn K (R i) (R (i + 1))) ∧ (sf_opn K sc (R i) (R (i + 1)) → op i = 1) ∧ (¬ sf_opn K sc (R i) (R (i + 1)) → op i = 0)
theorem sf_opn_congr {K sc K' sc' : Nat → Nat} {a b : Nat} (h : ∀ q, a ≤ q → q < b → K' q = K q ∧ sc' q = sc q) : sf_opn K' sc' a b ↔ sf_opn K sc a b := by
  constructor
  · rintro ⟨q, h1, h2, h3, h4⟩
    obtain ⟨e1, e2⟩ := h q h1 h2
    exact ⟨q, h1, h2, by omega, by omega⟩
  · rintro ⟨q, h1, h2, h3, h4⟩
    obtain ⟨e1, e2⟩ := h q h1 h2
    exact ⟨q, h1, h2, by omega, by omega⟩
/-- the stack's entries below the place that a call changes -/
theorem sf_SK_low {n d k : Nat} {K st sc sc' R : Nat → Nat} {sz cc op : Nat → Int32} (hR : ∀ i, i ≤ d → R i ≤ n) (hc : ∀ q, q < R d → sc' q = sc q) (hm : ∀ i, i < d → R (i + 1) ≤ R d) (h : ∀ i, i < d → sz i = nI (R (i + 1) - R i) ∧ cc i = nI (sf_cn K (R i) (R (i + 1))) ∧ (sf_opn K sc (R i) (R (i + 1)) → op i = 1) ∧ (¬ sf_opn K sc (R i) (R (i + 1)) → op i = 0)) :
    ∀ i, i < d → sz i = nI (sf_u R (d + 1) (n + 1) (i + 1) - sf_u R (d + 1) (n + 1) i) ∧ cc i = nI (sf_cn (sf_u K n k) (sf_u R (d + 1) (n + 1) i) (sf_u R (d + 1) (n + 1) (i + 1))) ∧ (sf_opn (sf_u K n k) (sf_u sc' n 0) (sf_u R (d + 1) (n + 1) i) (sf_u R (d + 1) (n + 1) (i + 1)) → op i = 1) ∧ (¬ sf_opn (sf_u K n k) (sf_u sc' n 0) (sf_u R (d + 1) (n + 1) i) (sf_u R (d + 1) (n + 1) (i + 1)) → op i = 0) := by
  intro i hi
  obtain ⟨h1, h2, h3, h4⟩ := h i hi
  have r1 := hR (i + 1) (by omega)
  have r2 := hm i hi
  have r3 := hR d (Nat.le_refl _)
  rw [sf_un' (j := i) (by omega), sf_un' (j := i + 1) (by omega), sf_cn_u r1]
  have e : sf_opn (sf_u K n k) (sf_u sc' n 0) (R i) (R (i + 1)) ↔ sf_opn K sc (R i) (R (i + 1)) :=
    sf_opn_congr (fun q _ g2 => ⟨sf_un' (by omega), by rw [sf_un' (by omega), hc q (by omega)]⟩)
  exact ⟨h1, h2, fun g => h3 (e.mp g), fun g => h4 (fun g' => g (e.mpr g'))⟩
theorem sf_R_mono {n d : Nat} {K st sc R : Nat → Nat} (h : sf_PF n d K st sc R) {i j : Nat} (hi : i ≤ j) (hj : j ≤ d) : R i ≤ R j := by
  by_cases e : i = j
  · rw [e]; exact Nat.le_refl _
  · exact Nat.le_of_lt (sf_R_lt h j i (by omega) hj)
theorem sf_SK1 {n d k : Nat} {K st sc R : Nat → Nat} {sz cc op : Nat → Int32} {o : Int32} (h : sf_PF n d K st sc R) (hk : k ≤ 1) (ho : o = if k = 1 then 1 else 0) (hS : sf_SK sz cc op d K sc R) : sf_SK (upd sz d 1) (upd cc d 0) (upd op d o) (d + 1) (sf_u K n k) (sf_u sc n 0) (sf_u R (d + 1) (n + 1)) := by
  have hlow := sf_SK_low (k := k) (sc' := sc) (st := st) (n := n) (fun i hi => sf_R_le h hi) (fun _ _ => rfl) (fun i hi => sf_R_mono h (by omega) (Nat.le_refl _)) hS
  intro i hi
  by_cases e : i = d
  · subst e
    rw [pk_us, pk_us, pk_us, sf_us, sf_un' (by omega), h.2.2.2.2.2.1, sf_cn_u1, sf_cn_0 n (Nat.le_refl _), if_neg (by omega), show n + 1 - n = 1 from by omega]
    refine ⟨rfl, rfl, fun ⟨q, g1, g2, g3, g4⟩ => ?_, fun g => ?_⟩
    · have : q = n := by omega
      rw [this, sf_us] at g3
      rw [ho, if_pos g3]
    · rw [ho, if_neg]
      intro k1
      exact g ⟨n, Nat.le_refl _, by omega, by rw [sf_us]; exact k1, by rw [sf_us]⟩
  · rw [pk_un e, pk_un e, pk_un e]
    exact hlow i (by omega)
theorem sf_SK2 {n d k : Nat} {K st sc R : Nat → Nat} {sz cc op : Nat → Int32} (h : sf_PF n (d + 1) K st sc R) (hk : 2 ≤ k) (hk' : k ≤ 6) (hS : sf_SK sz cc op (d + 1) K sc R) : sf_SK (upd sz d (sz d + 1)) cc op (d + 1) (sf_u K n k) (sf_u sc n 0) (sf_u R (d + 1) (n + 1)) := by
  have hlow := sf_SK_low (d := d) (k := k) (sc' := sc) (st := st) (n := n) (R := R) (fun i hi => sf_R_le h (i := i) (by omega)) (fun _ _ => rfl) (fun i hi => sf_R_mono h (by omega) (by omega)) (fun i hi => hS i (by omega))
  obtain ⟨t1, t2, t3, t4⟩ := sf_top h
  intro i hi
  by_cases e : i = d
  · subst e
    obtain ⟨h1, h2, h3, h4⟩ := hS i (by omega)
    rw [h.2.2.2.2.2.1] at h1 h2 h3 h4
    rw [pk_us, sf_us, sf_un' (by omega), sf_cn_u1, if_neg (by omega), Nat.add_zero, h1, nI_1]
    have eo : sf_opn (sf_u K n k) (sf_u sc n 0) (R i) (n + 1) ↔ sf_opn K sc (R i) n := by
      constructor
      · rintro ⟨q, g1, g2, g3, g4⟩
        have hq : q ≠ n := by
          intro eq
          rw [eq, sf_us] at g3
          omega
        rw [sf_un' hq] at g3 g4
        exact ⟨q, g1, by omega, g3, g4⟩
      · rintro ⟨q, g1, g2, g3, g4⟩
        exact ⟨q, g1, by omega, by rw [sf_un' (by omega)]; exact g3, by rw [sf_un' (by omega)]; exact g4⟩
    exact ⟨congrArg nI (by omega), h2, fun g => h3 (eo.mp g), fun g => h4 (fun g' => g (eo.mpr g'))⟩
  · rw [pk_un e]
    exact hlow i (by omega)
theorem sf_SK7 {n d : Nat} {K st sc R : Nat → Nat} {sz cc op : Nat → Int32} {o : Int32} (h : sf_PF n (d + 2) K st sc R) (hS : sf_SK sz cc op (d + 2) K sc R) (ho : (op d = 1 ∨ op (d + 1) = 1 → o = 1) ∧ (op d = 0 ∧ op (d + 1) = 0 → o = 0)) : sf_SK (upd sz d (sz d + (sz (d + 1) + 1))) (upd cc d (cc d + cc (d + 1))) (upd op d o) (d + 1) (sf_u K n 7) (sf_u sc n 0) (sf_u R (d + 1) (n + 1)) := by
  have hlow := sf_SK_low (d := d) (k := 7) (sc' := sc) (st := st) (n := n) (R := R) (fun i hi => sf_R_le h (i := i) (by omega)) (fun _ _ => rfl) (fun i hi => sf_R_mono h (by omega) (by omega)) (fun i hi => hS i (by omega))
  obtain ⟨t1, t2, t3, t4, t5, t6, t7⟩ := sf_sec h
  intro i hi
  by_cases e : i = d
  · subst e
    obtain ⟨h1, h2, h3, h4⟩ := hS i (by omega)
    obtain ⟨g1, g2, g3, g4⟩ := hS (i + 1) (by omega)
    have en : R (i + 1 + 1) = n := h.2.2.2.2.2.1
    rw [en] at g1 g2 g3 g4
    rw [pk_us, pk_us, pk_us, sf_us, sf_un' (by omega), sf_cn_u1, if_neg (by omega), Nat.add_zero, h1, g1, nI_1, nI_add, h2, g2, nI_add]
    have ec := sf_cn_add (K := K) (a := R i) (m := R (i + 1)) (by omega) n (by omega)
    refine ⟨congrArg nI (by omega), congrArg nI (by omega), fun ⟨q, q1, q2, q3, q4⟩ => ?_, fun g => ?_⟩
    · have hq : q ≠ n := by
        intro eq
        rw [eq, sf_us] at q3
        omega
      rw [sf_un' hq] at q3 q4
      by_cases l : q < R (i + 1)
      · exact ho.1 (Or.inl (h3 ⟨q, q1, l, q3, q4⟩))
      · exact ho.1 (Or.inr (g3 ⟨q, by omega, by omega, q3, q4⟩))
    · refine ho.2 ⟨h4 ?_, g4 ?_⟩
      · rintro ⟨q, q1, q2, q3, q4⟩
        exact g ⟨q, q1, by omega, by rw [sf_un' (by omega)]; exact q3, by rw [sf_un' (by omega)]; exact q4⟩
      · rintro ⟨q, q1, q2, q3, q4⟩
        exact g ⟨q, by omega, by omega, by rw [sf_un' (by omega)]; exact q3, by rw [sf_un' (by omega)]; exact q4⟩
  · rw [pk_un e, pk_un e, pk_un e]
    exact hlow i (by omega)
theorem sf_SK8 {n d : Nat} {K st sc R : Nat → Nat} {sz cc op : Nat → Int32} (h : sf_PF n (d + 2) K st sc R) (hS : sf_SK sz cc op (d + 2) K sc R) : sf_SK (upd sz d (sz d + (sz (d + 1) + 1))) (upd cc d (cc d + cc (d + 1) + 1)) op (d + 1) (sf_u K n 8) (sf_u (sf_bind sc (R (d + 1)) n) n 0) (sf_u R (d + 1) (n + 1)) := by
  have hb : ∀ q, q < R (d + 1) → sf_bind sc (R (d + 1)) n q = sc q := by
    intro q hq
    unfold sf_bind
    rw [if_neg (by omega)]
  obtain ⟨t1, t2, t3, t4, t5, t6, t7⟩ := sf_sec h
  have hlow := sf_SK_low (d := d) (k := 8) (sc' := sf_bind sc (R (d + 1)) n) (st := st) (n := n) (R := R) (fun i hi => sf_R_le h (i := i) (by omega)) (fun q hq => hb q (by omega)) (fun i hi => sf_R_mono h (by omega) (by omega)) (fun i hi => hS i (by omega))
  intro i hi
  by_cases e : i = d
  · subst e
    obtain ⟨h1, h2, h3, h4⟩ := hS i (by omega)
    obtain ⟨g1, g2, g3, g4⟩ := hS (i + 1) (by omega)
    have en : R (i + 1 + 1) = n := h.2.2.2.2.2.1
    rw [en] at g1 g2 g3 g4
    rw [pk_us, pk_us, sf_us, sf_un' (by omega), sf_cn_u1, if_pos (by omega), h1, g1, nI_1, nI_add, h2, g2, nI_add, nI_1]
    have ec := sf_cn_add (K := K) (a := R i) (m := R (i + 1)) (by omega) n (by omega)
    have eo : sf_opn (sf_u K n 8) (sf_u (sf_bind sc (R (i + 1)) n) n 0) (R i) (n + 1) ↔ sf_opn K sc (R i) (R (i + 1)) := by
      constructor
      · rintro ⟨q, q1, q2, q3, q4⟩
        have hq : q ≠ n := by
          intro eq
          rw [eq, sf_us] at q3
          omega
        rw [sf_un' hq] at q3 q4
        by_cases l : q < R (i + 1)
        · rw [hb q l] at q4
          exact ⟨q, q1, l, q3, q4⟩
        · unfold sf_bind at q4
          split at q4
          · omega
          · rename_i g; omega
      · rintro ⟨q, q1, q2, q3, q4⟩
        exact ⟨q, q1, by omega, by rw [sf_un' (by omega)]; exact q3, by rw [sf_un' (by omega), hb q q2]; exact q4⟩
    exact ⟨congrArg nI (by omega), congrArg nI (by omega), fun g => h3 (eo.mp g), fun g => h4 (fun g' => g (eo.mpr g'))⟩
  · rw [pk_un e, pk_un e]
    exact hlow i (by omega)

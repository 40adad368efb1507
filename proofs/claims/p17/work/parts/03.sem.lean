/-! the lists of a program: pure -/
def sf_un (op k x : Int32) : Int32 :=
  if op = 0 then x + k else if op = 1 then x - k else if op = 2 then x * k else if op = 3 then (if k = 0 then 0 else x / k)
  else if op = 4 then (if k = 0 then 0 else x - x / k * k) else if op = 5 then (if k ≤ x then k else x) else if op = 6 then (if x ≤ k then k else x)
  else if op = 7 then -x else x * x
def sf_pr (op k x : Int32) : Bool :=
  if op = 0 then decide (x - x / 2 * 2 = 0) else if op = 1 then decide (¬ x - x / 2 * 2 = 0) else if op = 2 then decide (¬ k ≤ x) else if op = 3 then decide (¬ x ≤ k)
  else if op = 4 then decide (x = k) else if op = 5 then decide (¬ x = k) else decide (¬ k = 0 ∧ x - x / k * k = 0)
def sf_bi (op a b : Int32) : Int32 :=
  if op = 0 then a + b else if op = 1 then a - b else if op = 2 then a * b else if op = 3 then (if b ≤ a then b else a) else if op = 4 then (if a ≤ b then b else a)
  else if op = 5 then a else b
def sf_run (a : Int32) : Nat → List Int32
  | 0 => []
  | i + 1 => sf_run a i ++ [a + nI i]
theorem sf_run_len (a : Int32) : ∀ i, (sf_run a i).length = i := by
  intro i
  induction i with
  | zero => rfl
  | succ i ih => rw [sf_run, List.length_append, ih]; rfl
def sf_scan (op : Int32) : Int32 → List Int32 → List Int32
  | _, [] => []
  | s, v :: t => sf_bi op s v :: sf_scan op (sf_bi op s v) t
def sf_fold (op : Int32) : Int32 → List Int32 → Int32
  | s, [] => s
  | s, v :: t => sf_fold op (sf_bi op s v) t
theorem sf_scan_len (op : Int32) : ∀ (l : List Int32) (s : Int32), (sf_scan op s l).length = l.length := by
  intro l
  induction l with
  | nil => intro s; rfl
  | cons v t ih => intro s; rw [sf_scan, List.length_cons, List.length_cons, ih]
theorem sf_scan_snoc (op v : Int32) : ∀ (l : List Int32) (s : Int32), sf_scan op s (l ++ [v]) = sf_scan op s l ++ [sf_bi op (sf_fold op s l) v] := by
  intro l
  induction l with
  | nil => intro s; rfl
  | cons w t ih => intro s; rw [List.cons_append, sf_scan, ih, sf_scan, sf_fold, List.cons_append]
theorem sf_fold_snoc (op v : Int32) : ∀ (l : List Int32) (s : Int32), sf_fold op s (l ++ [v]) = sf_bi op (sf_fold op s l) v := by
  intro l
  induction l with
  | nil => intro s; rfl
  | cons w t ih => intro s; rw [List.cons_append, sf_fold, ih, sf_fold]
/-- the length of an inner source's list: for a modulus of 1 to 7 -/
def sf_ilx (m x : Int32) : Int32 := (x - x / m * m + m) - (x - x / m * m + m) / m * m
def sf_il (B x : Int32) : Nat := (sf_ilx (B + 1) x).toNatClampNeg
theorem sf_rem_b (x : Int32) {m : Nat} (h0 : 0 < m) (hm : m < 2 ^ 30) : -(m : Int) < (x - x / nI m * nI m).toInt ∧ (x - x / nI m * nI m).toInt < m := by
  have hz : (nI m).toInt = (m : Int) := nI_toInt (by omega)
  have hne : nI m ≠ -1 := sn_neg1 (by omega)
  have h1 := Int.tmod_lt_of_pos x.toInt (b := (m : Int)) (by omega)
  have h2 := Int.lt_tmod_of_pos x.toInt (b := (m : Int)) (by omega)
  have e : x.toInt - x.toInt.tdiv m * m = x.toInt.tmod m := by rw [Int.tmod_def, Int.mul_comm]
  rw [Int32.toInt_sub, Int32.toInt_mul, Int32.toInt_div_of_ne_right _ _ hne, hz, Int.sub_bmod_bmod, e, Int.bmod_eq_of_le (by omega) (by omega)]
  exact ⟨h2, h1⟩
theorem sf_il_b {b : Nat} (hb : b ≤ 6) (x : Int32) : sf_il (nI b) x ≤ 6 ∧ sf_ilx (nI b + 1) x = nI (sf_il (nI b) x) := by
  have hm : nI b + 1 = nI (b + 1) := nI_1 b
  obtain ⟨h1, h2⟩ := sf_rem_b x (m := b + 1) (by omega) (by omega)
  have hz : (nI (b + 1)).toInt = ((b + 1 : Nat) : Int) := nI_toInt (by omega)
  have ht : (x - x / nI (b + 1) * nI (b + 1) + nI (b + 1)).toInt = (x - x / nI (b + 1) * nI (b + 1)).toInt + ((b + 1 : Nat) : Int) := by
    rw [Int32.toInt_add, hz]
    exact Int.bmod_eq_of_le (by omega) (by omega)
  have hpos : ¬ x - x / nI (b + 1) * nI (b + 1) + nI (b + 1) < 0 := by
    rw [Int32.lt_iff_toInt_lt, ht, show (0 : Int32).toInt = 0 from by decide]
    omega
  obtain ⟨j, hj, ej⟩ := nI_of hpos
  have er : sf_ilx (nI b + 1) x = nI (j % (b + 1)) := by
    unfold sf_ilx
    rw [hm, ej]
    exact pk_rem hj (by omega) (by omega)
  have hlt := Nat.mod_lt j (y := b + 1) (by omega)
  have ei : sf_il (nI b) x = j % (b + 1) := by
    unfold sf_il
    rw [er, nI_clamp (by omega)]
  rw [ei]
  exact ⟨by omega, er⟩
/-- one node's list out of its children's -/
def sf_G (K : Nat → Nat) (A B : Nat → Int32) (st : Nat → Nat) (M : Nat → Int32 → List Int32) (p : Nat) (x : Int32) : List Int32 :=
  if K p = 0 then sf_run (A p) (B p).toNatClampNeg
  else if K p = 1 then sf_run (x + A p) (sf_il (B p) x)
  else if K p = 2 then (M (p - 1) x).map (sf_un (A p) (B p))
  else if K p = 3 then (M (p - 1) x).filter (sf_pr (A p) (B p))
  else if K p = 4 then (M (p - 1) x).take (A p).toNatClampNeg
  else if K p = 5 then (M (p - 1) x).drop (A p).toNatClampNeg
  else if K p = 6 then sf_scan (A p) (B p) (M (p - 1) x)
  else if K p = 7 then List.zipWith (sf_bi (A p)) (M (st (p - 1) - 1) x) (M (p - 1) x)
  else (M (st (p - 1) - 1) x).flatMap (M (p - 1))
def sf_Sp (n : Nat) (K : Nat → Nat) (A B : Nat → Int32) (st : Nat → Nat) (L : Nat → Int32 → List Int32) : Prop :=
  ∀ p, p < n → ∀ x, L p x = sf_G K A B st L p x
def sf_tab {β : Type} (G : (Nat → β) → Nat → β) (b0 : β) : Nat → Nat → β
  | 0 => fun _ => b0
  | m + 1 => fun q => if q = m then G (sf_tab G b0 m) m else sf_tab G b0 m q
theorem sf_cov {β : Type} (n : Nat) (G : (Nat → β) → Nat → β) (b0 : β) (hG : ∀ p, p < n → ∀ f g : Nat → β, (∀ q, q < p → f q = g q) → G f p = G g p) : ∃ f : Nat → β, ∀ p, p < n → f p = G f p := by
  have hT : ∀ m q, q < m → sf_tab G b0 m q = sf_tab G b0 (q + 1) q := by
    intro m
    induction m with
    | zero => intro q h; omega
    | succ m ih =>
      intro q h
      by_cases e : q = m
      · rw [e]
      · show (if q = m then _ else sf_tab G b0 m q) = _
        rw [if_neg e]
        exact ih q (by omega)
  refine ⟨fun q => sf_tab G b0 (q + 1) q, fun p hp => ?_⟩
  show (if p = p then G (sf_tab G b0 p) p else _) = _
  rw [if_pos rfl]
  exact hG p hp _ _ (fun q hq => hT p q hq)
theorem sf_exL {n : Nat} {K st : Nat → Nat} (w : sf_WF n K st) (A B : Nat → Int32) : ∃ L, sf_Sp n K A B st L := by
  obtain ⟨f, hf⟩ := sf_cov n (fun (M : Nat → Int32 → List Int32) p => fun x => sf_G K A B st M p x) (fun _ => []) (by
    intro p hp f g h
    funext x
    unfold sf_G
    rcases w p hp with ⟨k, _⟩ | ⟨k, k', h1, _⟩ | ⟨k, k', h1, h2, _⟩
    · by_cases k0 : K p = 0
      · rw [if_pos k0, if_pos k0]
      · rw [if_neg k0, if_neg k0, if_pos (by omega), if_pos (by omega)]
    · rw [h (p - 1) (by omega)]
      by_cases k2 : K p = 2
      · simp [k2]
      · by_cases k3 : K p = 3
        · simp [k3]
        · by_cases k4 : K p = 4
          · simp [k4]
          · by_cases k5 : K p = 5
            · simp [k5]
            · have k6 : K p = 6 := by omega
              simp [k6]
    · have hl := sf_st_le w (p - 1) (by omega)
      rw [h (p - 1) (by omega), h (st (p - 1) - 1) (by omega)])
  exact ⟨f, fun p hp x => congrFun (hf p hp) x⟩
section SP
variable {n : Nat} {K st : Nat → Nat} {A B : Nat → Int32} {L : Nat → Int32 → List Int32}
theorem sf_L0 (s : sf_Sp n K A B st L) {p : Nat} (hp : p < n) (k : K p = 0) (x : Int32) : L p x = sf_run (A p) (B p).toNatClampNeg := by
  rw [s p hp x, sf_G, if_pos k]
theorem sf_L1 (s : sf_Sp n K A B st L) {p : Nat} (hp : p < n) (k : K p = 1) (x : Int32) : L p x = sf_run (x + A p) (sf_il (B p) x) := by
  rw [s p hp x, sf_G, if_neg (by omega), if_pos k]
theorem sf_L2 (s : sf_Sp n K A B st L) {c : Nat} (hp : c + 1 < n) (k : K (c + 1) = 2) (x : Int32) : L (c + 1) x = (L c x).map (sf_un (A (c + 1)) (B (c + 1))) := by
  rw [s (c + 1) hp x, sf_G, if_neg (by omega), if_neg (by omega), if_pos k, Nat.add_sub_cancel]
theorem sf_L3 (s : sf_Sp n K A B st L) {c : Nat} (hp : c + 1 < n) (k : K (c + 1) = 3) (x : Int32) : L (c + 1) x = (L c x).filter (sf_pr (A (c + 1)) (B (c + 1))) := by
  rw [s (c + 1) hp x, sf_G, if_neg (by omega), if_neg (by omega), if_neg (by omega), if_pos k, Nat.add_sub_cancel]
theorem sf_L4 (s : sf_Sp n K A B st L) {c : Nat} (hp : c + 1 < n) (k : K (c + 1) = 4) (x : Int32) : L (c + 1) x = (L c x).take (A (c + 1)).toNatClampNeg := by
  rw [s (c + 1) hp x, sf_G, if_neg (by omega), if_neg (by omega), if_neg (by omega), if_neg (by omega), if_pos k, Nat.add_sub_cancel]
theorem sf_L5 (s : sf_Sp n K A B st L) {c : Nat} (hp : c + 1 < n) (k : K (c + 1) = 5) (x : Int32) : L (c + 1) x = (L c x).drop (A (c + 1)).toNatClampNeg := by
  rw [s (c + 1) hp x, sf_G, if_neg (by omega), if_neg (by omega), if_neg (by omega), if_neg (by omega), if_neg (by omega), if_pos k, Nat.add_sub_cancel]
theorem sf_L6 (s : sf_Sp n K A B st L) {c : Nat} (hp : c + 1 < n) (k : K (c + 1) = 6) (x : Int32) : L (c + 1) x = sf_scan (A (c + 1)) (B (c + 1)) (L c x) := by
  rw [s (c + 1) hp x, sf_G, if_neg (by omega), if_neg (by omega), if_neg (by omega), if_neg (by omega), if_neg (by omega), if_neg (by omega), if_pos k, Nat.add_sub_cancel]
theorem sf_L7 (s : sf_Sp n K A B st L) {c a : Nat} (hp : c + 1 < n) (k : K (c + 1) = 7) (ha : st c = a + 1) (x : Int32) : L (c + 1) x = List.zipWith (sf_bi (A (c + 1))) (L a x) (L c x) := by
  rw [s (c + 1) hp x, sf_G, if_neg (by omega), if_neg (by omega), if_neg (by omega), if_neg (by omega), if_neg (by omega), if_neg (by omega), if_neg (by omega), if_pos k, Nat.add_sub_cancel, ha, Nat.add_sub_cancel]
theorem sf_L8 (s : sf_Sp n K A B st L) {c a : Nat} (hp : c + 1 < n) (k : K (c + 1) = 8) (ha : st c = a + 1) (x : Int32) : L (c + 1) x = (L a x).flatMap (L c) := by
  rw [s (c + 1) hp x, sf_G, if_neg (by omega), if_neg (by omega), if_neg (by omega), if_neg (by omega), if_neg (by omega), if_neg (by omega), if_neg (by omega), if_neg (by omega), Nat.add_sub_cancel, ha, Nat.add_sub_cancel]
end SP
/-! sums over a list -/
def sf_sm (f : Int32 → Nat) : List Int32 → Nat
  | [] => 0
  | x :: t => f x + sf_sm f t
theorem sf_sm_app (f : Int32 → Nat) (l m : List Int32) : sf_sm f (l ++ m) = sf_sm f l + sf_sm f m := by
  induction l with
  | nil => rw [List.nil_append, sf_sm, Nat.zero_add]
  | cons x t ih => rw [List.cons_append, sf_sm, sf_sm, ih]; omega
theorem sf_sm_flat (f : Int32 → Nat) (g : Int32 → List Int32) (l : List Int32) : sf_sm f (l.flatMap g) = sf_sm (fun x => sf_sm f (g x)) l := by
  induction l with
  | nil => rfl
  | cons x t ih => rw [List.flatMap_cons, sf_sm_app, ih, sf_sm]
theorem sf_sm_len (g : Int32 → List Int32) (l : List Int32) : (l.flatMap g).length = sf_sm (fun x => (g x).length) l := by
  induction l with
  | nil => rfl
  | cons x t ih => rw [List.flatMap_cons, List.length_append, ih, sf_sm]
theorem sf_sm_add (f g : Int32 → Nat) (l : List Int32) : sf_sm (fun x => f x + g x) l = sf_sm f l + sf_sm g l := by
  induction l with
  | nil => rfl
  | cons x t ih => rw [sf_sm, sf_sm, sf_sm, ih]; omega
theorem sf_sm_congr {f g : Int32 → Nat} {l : List Int32} (h : ∀ x, x ∈ l → f x = g x) : sf_sm f l = sf_sm g l := by
  induction l with
  | nil => rfl
  | cons x t ih =>
    rw [sf_sm, sf_sm, h x (List.mem_cons_self ..), ih (fun y hy => h y (List.mem_cons_of_mem _ hy))]
theorem sf_sm_le {f : Int32 → Nat} {b : Nat} (h : ∀ x, f x ≤ b) (l : List Int32) : sf_sm f l ≤ l.length * b := by
  induction l with
  | nil => exact Nat.zero_le _
  | cons x t ih =>
    rw [sf_sm, List.length_cons, Nat.succ_mul]
    have := h x
    omega
/-! the longest lists -/
def sf_lim (n : Nat) (K st : Nat → Nat) : Prop := ∀ p, p < n → K p = 8 → sf_cn K (st p) (p + 1) ≤ 2
def sf_src (n : Nat) (K : Nat → Nat) (B : Nat → Int32) : Prop := ∀ p, p < n → K p ≤ 1 → ∃ b, b ≤ 6 ∧ B p = nI b
theorem sf_p6 {a b : Nat} (h : a ≤ b) : 6 ^ a ≤ 6 ^ b := Nat.pow_le_pow_right (by omega) h
theorem sf_Llen {n : Nat} {K st : Nat → Nat} {A B : Nat → Int32} {L : Nat → Int32 → List Int32} (w : sf_WF n K st) (s : sf_Sp n K A B st L) (hl : sf_lim n K st) (hb : sf_src n K B) : ∀ p, p < n → ∀ x, (L p x).length ≤ 6 ^ sf_g K st p := by
  refine sf_ind w _ ?_ ?_ ?_ ?_
  · intro p hp k e x
    obtain ⟨b, hb6, eb⟩ := hb p hp k
    have h1 : 6 ^ 1 ≤ 6 ^ sf_g K st p := sf_p6 (by unfold sf_g; split <;> omega)
    by_cases k0 : K p = 0
    · rw [sf_L0 s hp k0, sf_run_len, eb, nI_clamp (by omega)]; omega
    · rw [sf_L1 s hp (by omega), sf_run_len, eb]
      have := (sf_il_b hb6 x).1
      omega
  · intro c hc k k' e ih x
    have hg := sf_g_u (K := K) e (by omega)
    rw [hg]
    have i := ih x
    by_cases k2 : K (c + 1) = 2
    · rw [sf_L2 s hc k2, List.length_map]; exact i
    · by_cases k3 : K (c + 1) = 3
      · rw [sf_L3 s hc k3]; exact Nat.le_trans (List.length_filter_le _ _) i
      · by_cases k4 : K (c + 1) = 4
        · rw [sf_L4 s hc k4, List.length_take]; omega
        · by_cases k5 : K (c + 1) = 5
          · rw [sf_L5 s hc k5, List.length_drop]; omega
          · rw [sf_L6 s hc (by omega), sf_scan_len]; exact i
  · intro c a hc k ha hac e iha ihc x
    have hg := sf_g_z (K := K) ha hac e (sf_st_le w a (by omega))
    rw [sf_L7 s hc k ha, List.length_zipWith]
    have := sf_p6 hg.2
    have := ihc x
    omega
  · intro c a hc k ha hac e iha ihc x
    have hg := sf_g_c k ha hac e (sf_st_le w a (by omega)) (hl _ hc k)
    rw [sf_L8 s hc k ha, hg, Nat.pow_add, sf_sm_len]
    exact Nat.le_trans (sf_sm_le ihc _) (Nat.mul_le_mul_right _ (iha x))
/-! rows: all lists of a node, one behind the other -/
def sf_E (ro : Nat → List Int32) : Nat → List Int32
  | 0 => [0]
  | s + 1 => ro s
def sf_scp (n : Nat) (K st sc : Nat → Nat) : Prop :=
  (∀ p, p < n → sc p ≤ st p) ∧ ∀ c, c + 1 < n →
    (2 ≤ K (c + 1) → K (c + 1) ≤ 6 → sc c = sc (c + 1)) ∧ (∀ a, st c = a + 1 → K (c + 1) = 7 → sc c = sc (c + 1) ∧ sc a = sc (c + 1)) ∧
    (∀ a, st c = a + 1 → K (c + 1) = 8 → sc c = a + 1 ∧ sc a = sc (c + 1))
def sf_Rw (n : Nat) (sc : Nat → Nat) (L : Nat → Int32 → List Int32) (ro : Nat → List Int32) : Prop := ∀ p, p < n → ro p = (sf_E ro (sc p)).flatMap (L p)
theorem sf_exR {n : Nat} {K st sc : Nat → Nat} (w : sf_WF n K st) (hs : sf_scp n K st sc) (L : Nat → Int32 → List Int32) : ∃ ro, sf_Rw n sc L ro := by
  refine sf_cov n (fun ro p => (sf_E ro (sc p)).flatMap (L p)) [] ?_
  intro p hp f g h
  have h1 := hs.1 p hp
  have h2 := sf_st_le w p hp
  have : sf_E f (sc p) = sf_E g (sc p) := by
    cases e : sc p with
    | zero => rfl
    | succ s => exact h s (by omega)
  show (sf_E f (sc p)).flatMap (L p) = _
  rw [this]
section RW
variable {n : Nat} {K st sc : Nat → Nat} {A B : Nat → Int32} {L : Nat → Int32 → List Int32} {ro : Nat → List Int32}
theorem sf_row_le (w : sf_WF n K st) (s : sf_Sp n K A B st L) (hl : sf_lim n K st) (hb : sf_src n K B) (hr : sf_Rw n sc L ro) {p : Nat} (hp : p < n) : (ro p).length ≤ (sf_E ro (sc p)).length * 6 ^ sf_g K st p := by
  rw [hr p hp, sf_sm_len]
  exact sf_sm_le (sf_Llen w s hl hb p hp) _
theorem sf_bnd (w : sf_WF n K st) (s : sf_Sp n K A B st L) (hl : sf_lim n K st) (hb : sf_src n K B) (hs : sf_scp n K st sc) (hr : sf_Rw n sc L ro) :
    ∀ r, r < n → (sf_E ro (sc r)).length * 6 ^ sf_g K st r ≤ 216 → ∀ q, st r ≤ q → q ≤ r → (sf_E ro (sc q)).length * 6 ^ sf_g K st q ≤ 216 := by
  refine sf_ind w _ ?_ ?_ ?_ ?_
  · intro p hp k e h q h1 h2
    have : q = p := by omega
    rw [this]; exact h
  · intro c hc k k' e ih h q h1 h2
    by_cases eq : q = c + 1
    · rw [eq]; exact h
    · refine ih ?_ q (by omega) (by omega)
      rw [((hs.2 c hc).1 k k'), ← sf_g_u (K := K) e (by omega)]
      exact h
  · intro c a hc k ha hac e iha ihc h q h1 h2
    have hg := sf_g_z (K := K) ha hac e (sf_st_le w a (by omega))
    have hsc := (hs.2 c hc).2.1 a ha k
    by_cases eq : q = c + 1
    · rw [eq]; exact h
    · by_cases eq2 : q ≤ a
      · refine iha ?_ q (by omega) eq2
        rw [hsc.2]
        exact Nat.le_trans (Nat.mul_le_mul_left _ (sf_p6 hg.1)) h
      · refine ihc ?_ q (by omega) (by omega)
        rw [hsc.1]
        exact Nat.le_trans (Nat.mul_le_mul_left _ (sf_p6 hg.2)) h
  · intro c a hc k ha hac e iha ihc h q h1 h2
    have hg := sf_g_c k ha hac e (sf_st_le w a (by omega)) (hl _ hc k)
    have hsc := (hs.2 c hc).2.2 a ha k
    rw [hg, Nat.pow_add, ← Nat.mul_assoc] at h
    have hro := sf_row_le w s hl hb hr (p := a) (by omega)
    rw [hsc.2] at hro
    by_cases eq : q = c + 1
    · rw [eq, hg, Nat.pow_add, ← Nat.mul_assoc]; exact h
    · by_cases eq2 : q ≤ a
      · refine iha ?_ q (by omega) eq2
        rw [hsc.2]
        refine Nat.le_trans ?_ h
        exact Nat.le_mul_of_pos_right _ (Nat.pow_pos (by omega))
      · refine ihc ?_ q (by omega) (by omega)
        rw [hsc.1]
        exact Nat.le_trans (Nat.mul_le_mul_right _ hro) h
/-! cost -/
def sf_rs (f : Nat → Nat) (a : Nat) : Nat → Nat
  | 0 => 0
  | b + 1 => sf_rs f a b + if a ≤ b then f b else 0
theorem sf_rs_s (f : Nat → Nat) (a b : Nat) : sf_rs f a (b + 1) = sf_rs f a b + if a ≤ b then f b else 0 := rfl
theorem sf_rs_0 {f : Nat → Nat} {a : Nat} : ∀ b, b ≤ a → sf_rs f a b = 0 := by
  intro b
  induction b with
  | zero => intro _; rfl
  | succ b ih =>
    intro h
    rw [sf_rs_s, ih (by omega), if_neg (by omega)]
theorem sf_rs_add {f : Nat → Nat} {a m : Nat} (h : a ≤ m) : ∀ b, m ≤ b → sf_rs f a b = sf_rs f a m + sf_rs f m b := by
  intro b
  induction b with
  | zero =>
    intro hb
    have : m = 0 := by omega
    subst this
    rfl
  | succ b ih =>
    intro hb
    by_cases e : m = b + 1
    · rw [← e, sf_rs_0 m (Nat.le_refl _)]; rfl
    · rw [sf_rs_s, sf_rs_s, ih (by omega), if_pos (by omega), if_pos (by omega)]; omega
def sf_Co (n : Nat) (K st : Nat → Nat) (L : Nat → Int32 → List Int32) (C : Nat → Int32 → Nat) : Prop :=
  ∀ p, p < n → ∀ x, C p x = (L p x).length + (if K p ≤ 1 then 0 else if K p ≤ 6 then C (p - 1) x else if K p = 7 then C (st (p - 1) - 1) x + C (p - 1) x
    else C (st (p - 1) - 1) x + sf_sm (C (p - 1)) (L (st (p - 1) - 1) x))
theorem sf_exC (w : sf_WF n K st) (L : Nat → Int32 → List Int32) : ∃ C, sf_Co n K st L C := by
  obtain ⟨f, hf⟩ := sf_cov n (fun (C : Nat → Int32 → Nat) p => fun x => (L p x).length + (if K p ≤ 1 then 0 else if K p ≤ 6 then C (p - 1) x else if K p = 7 then C (st (p - 1) - 1) x + C (p - 1) x
    else C (st (p - 1) - 1) x + sf_sm (C (p - 1)) (L (st (p - 1) - 1) x))) (fun _ => 0) (by
    intro p hp f g h
    funext x
    rcases w p hp with ⟨k, _⟩ | ⟨k, k', h1, _⟩ | ⟨k, k', h1, h2, _⟩
    · rw [if_pos k, if_pos k]
    · rw [h (p - 1) (by omega), if_neg (by omega : ¬ K p ≤ 1), if_pos k', if_neg (by omega : ¬ K p ≤ 1), if_pos k']
    · have hl := sf_st_le w (p - 1) (by omega)
      rw [h (p - 1) (by omega), h (st (p - 1) - 1) (by omega)])
  exact ⟨f, fun p hp x => congrFun (hf p hp) x⟩
variable {C : Nat → Int32 → Nat}
theorem sf_C1 (h : sf_Co n K st L C) {p : Nat} (hp : p < n) (k : K p ≤ 1) (x : Int32) : C p x = (L p x).length := by
  rw [h p hp x, if_pos k, Nat.add_zero]
theorem sf_C2 (h : sf_Co n K st L C) {c : Nat} (hp : c + 1 < n) (k : 2 ≤ K (c + 1)) (k' : K (c + 1) ≤ 6) (x : Int32) : C (c + 1) x = (L (c + 1) x).length + C c x := by
  rw [h (c + 1) hp x, if_neg (by omega), if_pos k', Nat.add_sub_cancel]
theorem sf_C7 (h : sf_Co n K st L C) {c a : Nat} (hp : c + 1 < n) (k : K (c + 1) = 7) (ha : st c = a + 1) (x : Int32) : C (c + 1) x = (L (c + 1) x).length + (C a x + C c x) := by
  rw [h (c + 1) hp x, if_neg (by omega), if_neg (by omega), if_pos k, Nat.add_sub_cancel, ha, Nat.add_sub_cancel]
theorem sf_C8 (h : sf_Co n K st L C) {c a : Nat} (hp : c + 1 < n) (k : K (c + 1) = 8) (ha : st c = a + 1) (x : Int32) : C (c + 1) x = (L (c + 1) x).length + (C a x + sf_sm (C c) (L a x)) := by
  rw [h (c + 1) hp x, if_neg (by omega), if_neg (by omega), if_neg (by omega), Nat.add_sub_cancel, ha, Nat.add_sub_cancel]
theorem sf_cost (w : sf_WF n K st) (s : sf_Sp n K A B st L) (hs : sf_scp n K st sc) (hr : sf_Rw n sc L ro) (hC : sf_Co n K st L C) :
    ∀ p, p < n → sf_sm (C p) (sf_E ro (sc p)) = sf_rs (fun q => (ro q).length) (st p) (p + 1) := by
  have hlen : ∀ p, p < n → sf_sm (fun x => (L p x).length) (sf_E ro (sc p)) = (ro p).length := by
    intro p hp
    rw [hr p hp, sf_sm_len]
  refine sf_ind w _ ?_ ?_ ?_ ?_
  · intro p hp k e
    rw [sf_sm_congr (fun x _ => sf_C1 hC hp k x), hlen p hp, e, sf_rs_s, sf_rs_0 _ (Nat.le_refl _), if_pos (Nat.le_refl _), Nat.zero_add]
  · intro c hc k k' e ih
    have l := sf_st_le w c (by omega)
    rw [sf_sm_congr (fun x _ => sf_C2 hC hc k k' x), sf_sm_add, hlen _ hc, ← (hs.2 c hc).1 k k', ih, e, sf_rs_s _ _ (c + 1), if_pos (by omega)]
    omega
  · intro c a hc k ha hac e iha ihc
    have l := sf_st_le w a (by omega)
    have hsc := (hs.2 c hc).2.1 a ha k
    rw [sf_sm_congr (fun x _ => sf_C7 hC hc k ha x), sf_sm_add, sf_sm_add, hlen _ hc, e, sf_rs_s _ _ (c + 1), if_pos (by omega), sf_rs_add (m := a + 1) (by omega) (c + 1) (by omega), ← iha, ← ha, ← ihc, hsc.1, hsc.2]
    omega
  · intro c a hc k ha hac e iha ihc
    have l := sf_st_le w a (by omega)
    have hsc := (hs.2 c hc).2.2 a ha k
    have hi : sf_sm (C c) (sf_E ro (sc c)) = sf_sm (fun x => sf_sm (C c) (L a x)) (sf_E ro (sc (c + 1))) := by
      rw [hsc.1]
      show sf_sm (C c) (ro a) = _
      rw [hr a (by omega), sf_sm_flat, hsc.2]
    rw [sf_sm_congr (fun x _ => sf_C8 hC hc k ha x), sf_sm_add, sf_sm_add, hlen _ hc, e, sf_rs_s _ _ (c + 1), if_pos (by omega), sf_rs_add (m := a + 1) (by omega) (c + 1) (by omega), ← iha, ← ha, ← ihc, hi, hsc.2]
    omega
end RW

/-! the nodes as the two states keep them -/
def sf_XN (ki op ar lo so A B : Nat → Int32) (K st sc : Nat → Nat) (p : Nat) : Prop :=
  ki (p + 1) = nI (K p) ∧ so (p + 1) = nI (sc p) ∧ (K p ≤ 1 → op (p + 1) = B p ∧ ar (p + 1) = A p) ∧ (K p = 2 ∨ K p = 3 ∨ K p = 6 → op (p + 1) = A p ∧ ar (p + 1) = B p) ∧
  (K p = 4 ∨ K p = 5 → ar (p + 1) = A p) ∧ (K p = 7 → op (p + 1) = A p) ∧ (7 ≤ K p → lo (p + 1) = nI (st (p - 1)))
def sf_YN (n : Nat) (ki s' bi : Nat → Int32) (K st sc : Nat → Nat) (p : Nat) : Prop :=
  ki p = nI (K p) ∧ s' p = nI (st p) ∧ (K p = 1 → (sc p = 0 ∧ bi p = -1) ∨ ∃ d, d + 1 < n ∧ K (d + 1) = 8 ∧ st d = sc p ∧ bi p = nI (d + 1))
theorem sf_XN_old {ki op ar lo so A B : Nat → Int32} {K st sc sc' : Nat → Nat} {n p k s : Nat} {so' : Nat → Int32} {v1 v2 v3 v5 v6 v7 : Int32} (hp : p < n) (h : sf_XN ki op ar lo so A B K st sc p) (hs : so' (p + 1) = nI (sc' p)) :
    sf_XN (upd ki (n + 1) v1) (upd op (n + 1) v2) (upd ar (n + 1) v3) lo (upd so' (n + 1) v5) (upd A n v6) (upd B n v7) (sf_u K n k) (sf_u st n s) (sf_u sc' n 0) p := by
  unfold sf_XN at h ⊢
  rw [pk_un (by omega), pk_un (by omega), pk_un (by omega), pk_un (by omega), pk_un (by omega), pk_un (by omega), sf_un' (f := K) (by omega), sf_un' (f := sc') (by omega), sf_un' (f := st) (by omega)]
  exact ⟨h.1, hs, h.2.2⟩
theorem sf_XN_lo {ki op ar lo so A B : Nat → Int32} {K st sc : Nat → Nat} {m p : Nat} {v : Int32} (hp : p + 1 ≠ m) (h : sf_XN ki op ar lo so A B K st sc p) : sf_XN ki op ar (upd lo m v) so A B K st sc p := by
  unfold sf_XN at h ⊢
  rw [pk_un (by omega)]
  exact h
theorem sf_YN_old {ki s' bi bi' : Nat → Int32} {K st sc sc' : Nat → Nat} {n p k s : Nat} {v1 v2 v3 : Int32} (hp : p < n) (h : sf_YN n ki s' bi K st sc p)
    (hb : K p = 1 → (sc' p = 0 ∧ bi' p = -1) ∨ ∃ d, d + 1 < n + 1 ∧ sf_u K n k (d + 1) = 8 ∧ sf_u st n s d = sc' p ∧ bi' p = nI (d + 1)) :
    sf_YN (n + 1) (upd ki n v1) (upd s' n v2) (upd bi' n v3) (sf_u K n k) (sf_u st n s) (sf_u sc' n 0) p := by
  unfold sf_YN
  rw [pk_un (by omega), pk_un (by omega), pk_un (by omega), sf_un' (f := K) (j := p) (by omega), sf_un' (f := sc') (j := p) (by omega), sf_un' (f := st) (j := p) (by omega)]
  exact ⟨h.1, h.2.1, hb⟩
theorem sf_YN_keep {ki s' bi : Nat → Int32} {K st sc : Nat → Nat} {n p k s : Nat} (hp : p < n) (h : sf_YN n ki s' bi K st sc p) :
    K p = 1 → (sc p = 0 ∧ bi p = -1) ∨ ∃ d, d + 1 < n + 1 ∧ sf_u K n k (d + 1) = 8 ∧ sf_u st n s d = sc p ∧ bi p = nI (d + 1) := by
  intro k1
  rcases h.2.2 k1 with g | ⟨d, g1, g2, g3, g4⟩
  · exact Or.inl g
  · exact Or.inr ⟨d, by omega, by rw [sf_un' (by omega)]; exact g2, by rw [sf_un' (by omega)]; exact g3, g4⟩
theorem sf_XN_new {ki op ar lo so A B : Nat → Int32} {K st sc : Nat → Nat} {n k s : Nat} {v2 v3 v6 v7 : Int32} (h1 : k ≤ 1 → v2 = v7 ∧ v3 = v6) (h2 : k = 2 ∨ k = 3 ∨ k = 6 → v2 = v6 ∧ v3 = v7) (h3 : k = 4 ∨ k = 5 → v3 = v6) (h4 : k = 7 → v2 = v6) (h5 : 7 ≤ k → 1 ≤ n ∧ lo (n + 1) = nI (st (n - 1))) :
    sf_XN (upd ki (n + 1) (nI k)) (upd op (n + 1) v2) (upd ar (n + 1) v3) lo (upd so (n + 1) 0) (upd A n v6) (upd B n v7) (sf_u K n k) (sf_u st n s) (sf_u sc n 0) n := by
  unfold sf_XN
  rw [pk_us, pk_us, pk_us, pk_us, pk_us, pk_us, sf_us, sf_us]
  refine ⟨rfl, rfl, h1, h2, h3, h4, fun g => ?_⟩
  rw [sf_un' (by have := h5 g; omega)]
  exact (h5 g).2
theorem sf_YN_new {ki s' bi : Nat → Int32} {K st sc : Nat → Nat} {n k s : Nat} : sf_YN (n + 1) (upd ki n (nI k)) (upd s' n (nI s)) (upd bi n (-1)) (sf_u K n k) (sf_u st n s) (sf_u sc n 0) n := by
  unfold sf_YN
  rw [pk_us, pk_us, pk_us, sf_us, sf_us, sf_us]
  exact ⟨rfl, rfl, fun _ => Or.inl ⟨rfl, rfl⟩⟩
/-! binding -/
def sf_sb (so : Nat → Int32) (s m : Nat) (v : Int32) : Nat → Int32 := fun q => if s ≤ q ∧ q < m ∧ so q = 0 then v else so q
theorem sf_sb_0 (so : Nat → Int32) (s : Nat) (v : Int32) : sf_sb so s s v = so := by
  funext q
  unfold sf_sb
  rw [if_neg]
  rintro ⟨h1, h2, _⟩
  omega
theorem sf_sb_t {so : Nat → Int32} {s m : Nat} {v : Int32} (h : s ≤ m) (e : so m = 0) : upd (sf_sb so s m v) m v = sf_sb so s (m + 1) v := by
  funext q
  unfold sf_sb upd
  by_cases g : q = m
  · rw [if_pos g, if_pos ⟨by omega, by omega, by rw [g]; exact e⟩]
  · rw [if_neg g]
    dsimp only
    by_cases g2 : s ≤ q ∧ q < m ∧ so q = 0
    · rw [if_pos g2, if_pos ⟨g2.1, by omega, g2.2.2⟩]
    · rw [if_neg g2, if_neg]
      rintro ⟨h1, h2, h3⟩
      exact g2 ⟨h1, by omega, h3⟩
theorem sf_sb_f {so : Nat → Int32} {s m : Nat} {v : Int32} (e : ¬ so m = 0) : sf_sb so s m v = sf_sb so s (m + 1) v := by
  funext q
  unfold sf_sb
  by_cases g2 : s ≤ q ∧ q < m ∧ so q = 0
  · rw [if_pos g2, if_pos ⟨g2.1, by omega, g2.2.2⟩]
  · rw [if_neg g2, if_neg]
    rintro ⟨h1, h2, h3⟩
    by_cases g : q = m
    · rw [g] at h3; exact e h3
    · exact g2 ⟨h1, by omega, h3⟩
theorem sf_sb_m (so : Nat → Int32) (s m : Nat) (v : Int32) : sf_sb so s m v m = so m := by
  unfold sf_sb
  rw [if_neg]
  rintro ⟨_, h, _⟩
  omega
def sf_bb (ki bi : Nat → Int32) (s m : Nat) (v : Int32) : Nat → Int32 := fun q => if s ≤ q ∧ q < m ∧ ki q = 1 ∧ bi q = -1 then v else bi q
theorem sf_bb_0 (ki bi : Nat → Int32) (s : Nat) (v : Int32) : sf_bb ki bi s s v = bi := by
  funext q
  unfold sf_bb
  rw [if_neg]
  rintro ⟨h1, h2, _⟩
  omega
theorem sf_bb_t {ki bi : Nat → Int32} {s m : Nat} {v : Int32} (h : s ≤ m) (e : ki m = 1) (e' : bi m = -1) : upd (sf_bb ki bi s m v) m v = sf_bb ki bi s (m + 1) v := by
  funext q
  unfold sf_bb upd
  by_cases g : q = m
  · rw [if_pos g, if_pos ⟨by omega, by omega, by rw [g]; exact e, by rw [g]; exact e'⟩]
  · rw [if_neg g]
    dsimp only
    by_cases g2 : s ≤ q ∧ q < m ∧ ki q = 1 ∧ bi q = -1
    · rw [if_pos g2, if_pos ⟨g2.1, by omega, g2.2.2⟩]
    · rw [if_neg g2, if_neg]
      rintro ⟨h1, h2, h3⟩
      exact g2 ⟨h1, by omega, h3⟩
theorem sf_bb_f {ki bi : Nat → Int32} {s m : Nat} {v : Int32} (e : ¬ (ki m = 1 ∧ bi m = -1)) : sf_bb ki bi s m v = sf_bb ki bi s (m + 1) v := by
  funext q
  unfold sf_bb
  by_cases g2 : s ≤ q ∧ q < m ∧ ki q = 1 ∧ bi q = -1
  · rw [if_pos g2, if_pos ⟨g2.1, by omega, g2.2.2⟩]
  · rw [if_neg g2, if_neg]
    rintro ⟨h1, h2, h3⟩
    by_cases g : q = m
    · rw [g] at h3; exact e h3
    · exact g2 ⟨h1, by omega, h3⟩
theorem sf_bb_m (ki bi : Nat → Int32) (s m : Nat) (v : Int32) : sf_bb ki bi s m v m = bi m := by
  unfold sf_bb
  rw [if_neg]
  rintro ⟨_, h, _⟩
  omega
/-- binding, as the component and as the reference keep it -/
theorem sf_bindX {so : Nat → Int32} {sc : Nat → Nat} {s n p : Nat} (hp : p < n) (hs : s < 2 ^ 31) (hsc : sc p < 2 ^ 31) (h : so (p + 1) = nI (sc p)) : sf_sb so (s + 1) (n + 1) (nI s) (p + 1) = nI (sf_bind sc s n p) := by
  unfold sf_sb sf_bind
  by_cases g : s ≤ p ∧ p < n ∧ sc p = 0
  · rw [if_pos g, if_pos ⟨by omega, by omega, by rw [h, g.2.2]; rfl⟩]
  · rw [if_neg g, if_neg, h]
    rintro ⟨h1, h2, h3⟩
    rw [h] at h3
    exact g ⟨by omega, hp, sn_im h3 hsc (by decide)⟩
theorem sf_bindY {ki s' bi : Nat → Int32} {K st sc : Nat → Nat} {n p s t : Nat} (w : sf_WF n K st) (hn : n ≤ 16) (hp : p < n) (hs : 1 ≤ s) (hst : st (n - 1) = s) (hk : K p < 2 ^ 31) (h : sf_YN n ki s' bi K st sc p) :
    K p = 1 → (sf_bind sc s n p = 0 ∧ sf_bb ki bi s n (nI n) p = -1) ∨ ∃ d, d + 1 < n + 1 ∧ sf_u K n 8 (d + 1) = 8 ∧ sf_u st n t d = sf_bind sc s n p ∧ sf_bb ki bi s n (nI n) p = nI (d + 1) := by
  intro k1
  have hk1 : ki p = 1 := by rw [h.1, k1]; rfl
  rcases h.2.2 k1 with ⟨g1, g2⟩ | ⟨d, g1, g2, g3, g4⟩
  · by_cases g : s ≤ p
    · right
      refine ⟨n - 1, by omega, ?_, ?_, ?_⟩
      · rw [show n - 1 + 1 = n from by omega, sf_us]
      · rw [sf_un' (by omega), hst]
        unfold sf_bind
        rw [if_pos ⟨g, hp, g1⟩]
      · rw [show n - 1 + 1 = n from by omega]
        unfold sf_bb
        rw [if_pos ⟨g, hp, hk1, g2⟩]
    · left
      unfold sf_bind sf_bb
      rw [if_neg (by omega), if_neg (by omega)]
      exact ⟨g1, g2⟩
  · have hpos : 1 ≤ st d := by
      rcases w (d + 1) g1 with ⟨k, _⟩ | ⟨_, k, _⟩ | ⟨_, _, _, h2, _⟩
      · omega
      · omega
      · rw [Nat.add_sub_cancel] at h2; exact h2
    right
    refine ⟨d, by omega, by rw [sf_un' (by omega)]; exact g2, ?_, ?_⟩
    · rw [sf_un' (by omega), g3]
      unfold sf_bind
      rw [if_neg (by omega)]
    · unfold sf_bb
      rw [if_neg, g4]
      rintro ⟨_, _, _, z⟩
      rw [g4] at z
      exact sn_neg1 (by omega) z

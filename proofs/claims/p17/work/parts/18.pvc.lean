/-! the owed statement -/
theorem pt_clamp (v : Int32) : ∃ r : Int32, ∀ post : Int32 → Prop, post r → wpX_clamp post () v 8 256 := by
  by_cases h8 : 8 ≤ v
  · by_cases h : v ≤ 256
    · exact ⟨v, fun post g => br_t h8 (br_t h g)⟩
    · exact ⟨256, fun post g => br_t h8 (br_f h g)⟩
  · exact ⟨8, fun post g => br_f h8 g⟩
theorem pt_init {post : St2 → Prop} {u : St1} {v r : Int32} (hr : ∀ post : Int32 → Prop, post r → wpX_clamp post () v 8 256) (h : post (r, 0, 0, 0, 0, (fun _ => 0), (fun _ => 0), (fun _ => 0), (fun _ => 0), (fun _ => 0), (fun _ => 0), (fun _ => 0), (fun _ => 0), (fun _ => 0), (fun _ => 0), upd (fun _ => 0) 0 1, (fun _ => 0))) : wpX_init post 12 9110 u v := by
  obtain ⟨u1, u2, u3, u4, u5⟩ := u
  refine And.intro (by decide) (And.intro (by decide) (And.intro (by decide) (And.intro (by decide) (And.intro (by decide) (And.intro (by decide) (And.intro (by decide) (And.intro (by decide) (And.intro (by decide) (And.intro (by decide) (And.intro (by decide) (And.intro (by decide) (And.intro (by decide) (And.intro (by decide) (And.intro (by decide) (And.intro (by decide) (And.intro (by decide) (And.intro (by decide) (And.intro (by decide) (And.intro (by decide) (And.intro (by decide) (And.intro (by decide) (And.intro (by decide) (And.intro (by decide) ?_)))))))))))))))))))))))
  exact hr _ (nm_e h)
theorem i_vc (xs : Nat → Int32) (L : Nat) (hL : L ≤ 260) : wpL_law (fun r => r = 1) L xs := by
  obtain ⟨c0, h0⟩ := pt_cell xs (L := L) (p := 0) (by omega) (by omega)
  obtain ⟨r, hr⟩ := pt_clamp (sf_ilx 300 c0 - 12)
  unfold wpL_law
  refine h0 _ (pt_mod (by decide) (nm_e ⟨12, 9110, by decide, by decide, pt_init hr ⟨by decide, by decide, 12, 9110, by decide, by decide, pt_init hr ⟨101, ?_⟩⟩⟩))
  refine pt_loop (post := fun r => r = 1) hL rfl 100 1 (by omega) (by omega) _ _ _ _ _ _ _ _ _ _ _ _ _ _ _ _ _ _ _ _ _ _ _ (px_0 _ _ _ _ _ _ _ _) ?_ ?_ ?_ ?_
  all_goals rfl

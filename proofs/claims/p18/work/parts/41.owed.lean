section PS41
theorem ps_init {post : St2 → Prop} {x : Int32} (H : ∀ h, 64 ≤ h → h ≤ 256 → ∀ re ex mi le : Nat → Int32, post (nI h, 0, 0, fun _ => 0, fun _ => 0, fun _ => 0, fun _ => 0, fun _ => 0, fun _ => 0, re, ex, mi, le)) : wpX_init post 10 152 (0, 0, 0) x := by
  unfold wpX_init
  refine ⟨by decide, by decide, by decide, by decide, by decide, by decide, by decide, by decide, by decide, by decide, by decide, by decide, by decide, by decide, by decide, by decide, by decide, by decide, by decide, by decide, ?_⟩
  have G : ∀ h, 64 ≤ h → h ≤ 256 → wpX_invalidate (fun u => match u with | (a, b, c, d1, d2, d3, d4, d5, d6, d7, d8, d9, d10) => post (a, b, c, d1, d2, d3, d4, d5, d6, d7, d8, d9, d10)) (nI h, 0, 0, fun _ => 0, fun _ => 0, fun _ => 0, fun _ => 0, fun _ => 0, fun _ => 0, fun _ => 0, fun _ => 0, fun _ => 0, fun _ => 0) :=
    fun h h1 h2 => pr_xinval pr_C0 (H h h1 h2 _ _ _ _)
  by_cases a : (64 : Int32) ≤ x
  · by_cases b : x ≤ 256
    · have n0 : ¬ x < 0 := fun z => absurd (Int32.lt_of_le_of_lt a z) (by decide)
      obtain ⟨h, hh, rfl⟩ := nI_of n0
      have h1 : 64 ≤ h := (nI_leI (a := 64) (by omega) hh).mp a
      have h2 : h ≤ 256 := (nI_leI (b := 256) hh (by omega)).mp b
      exact br_t a (br_t b (G h h1 h2))
    · exact br_t a (br_f b (G 256 (by omega) (by omega)))
  · exact br_f a (G 64 (by omega) (by omega))
theorem ps_go {post : Int32 → Prop} {L : Nat} {xs : Nat → Int32} {h kc ks : Nat} (hL : L ≤ 260) (hpost : post 1) (h1 : 64 ≤ h) (h2 : h ≤ 256) (re ex mi le : Nat → Int32) :
    ∃ n, wL_law_24 post L xs (nI h) kc ks n (nI 1) (nI h) 0 0 (fun _ => 0) (fun _ => 0) (fun _ => 0) (fun _ => 0) (fun _ => 0) (fun _ => 0) re ex mi le :=
  ⟨65 + 1, ps_l24 hL hpost 65 1 (by omega) (by omega) 0 0 _ _ _ _ _ _ re ex mi le (ps_ok0 h1 h2 ps_any0)⟩
theorem ps_gh {post : Int32 → Prop} {hz nw ad : Int32} {po ct sp sb pe wc re ex mi le : Nat → Int32} (h : post hz) : wpX_getHorizon post (hz, nw, ad, po, ct, sp, sb, pe, wc, re, ex, mi, le) := h
theorem i_vc (xs : Nat → Int32) (L : Nat) (hL : L ≤ 260) : wpL_law (fun r => r = 1) L xs := by
  unfold wpL_law
  refine ps_cell hL (i := 0) (by omega) rfl ?_
  intro r
  refine ⟨10, 152, by decide, by decide, ?_⟩
  refine ps_init ?_
  intro h h1 h2 re ex mi le
  refine ps_gh ?_
  exact ps_go (post := fun r => r = 1) hL rfl h1 h2 re ex mi le
end PS41

section PR06
variable {hz nw ad : Int32} {po ct sp sb pe wc re ex mi le : Nat → Int32}
/-! the arguments -/
theorem pr_xcomp {post : Int32 → Prop} {x : Int32} (h0 : ¬ (∃ c, c < 4 ∧ x = nI c) → post 0) (h1 : ∀ c, c < 4 → x = nI c → post 1) : wpX_isComponent post () x := by
  refine br_c (fun z => h0 ?_) (fun z => br_c (fun z2 => h0 ?_) (fun z2 => ?_))
  · rintro ⟨c, hc, rfl⟩; exact nI_pos (by omega) z
  · rintro ⟨c, hc, rfl⟩; exact nI_ge (b := 4) hc (by decide) z2
  · obtain ⟨j, hj, rfl⟩ := nI_of z
    have h : j < 4 := by
      have h5 : ¬ nI 4 ≤ nI j := z2
      rw [nI_leI (by omega) hj] at h5
      omega
    exact h1 j h rfl
/-! Y's test of the component -/
/-! the invariant over stores -/
theorem pr_C_pol {c0 : Nat} {x : Int32} (hx : x = 0 ∨ x = 1) (I : ∀ c, c < 4 → pr_C po ct sp sb pe c) : ∀ c, c < 4 → pr_C (upd po c0 x) ct sp sb pe c := by
  intro c hc
  obtain ⟨h1, h2⟩ := I c hc
  refine ⟨?_, h2⟩
  by_cases e : c = c0
  · subst e; rw [pk_us]; exact hx
  · rw [pk_un e]; exact h1
theorem pr_C_if {c0 p q : Nat} (hp : p ≤ 32) (hq : q ≤ p) (I : ∀ c, c < 4 → pr_C po ct sp sb pe c) : ∀ c, c < 4 → pr_C po ct (upd sp c0 (nI p)) (upd sb c0 (nI q)) pe c := by
  intro c hc
  obtain ⟨h1, h2, h3⟩ := I c hc
  refine ⟨h1, h2, ?_⟩
  by_cases e : c = c0
  · subst e; rw [pk_us, pk_us]; exact ⟨p, q, hp, hq, rfl, rfl⟩
  · rw [pk_un e, pk_un e]; exact h3
theorem pr_C_rm {c0 : Nat} (I : ∀ c, c < 4 → pr_C po ct sp sb pe c) : ∀ c, c < 4 → pr_C po ct (upd sp c0 0) (upd sb c0 0) pe c :=
  pr_C_if (p := 0) (q := 0) (by omega) (by omega) I
theorem pr_C_add {c0 k p : Nat} (h0 : c0 < 4) (hk : k < 8) (hct : ct c0 = nI k) (hp : 1 ≤ p) (hp2 : p ≤ 64) (I : ∀ c, c < 4 → pr_C po ct sp sb pe c) : ∀ c, c < 4 → pr_C po (upd ct c0 (nI (k + 1))) sp sb (upd pe (c0 * 8 + k) (nI p)) c := by
  intro c hc
  obtain ⟨h1, ⟨k1, hk1, hct1, hpe⟩, h3⟩ := I c hc
  refine ⟨h1, ?_, h3⟩
  by_cases e : c = c0
  · subst e
    rw [pk_us]
    have ek : k1 = k := by
      have := (nI_eq (by omega) (by omega)).mp (hct1.symm.trans hct)
      exact this
    subst ek
    refine ⟨k1 + 1, by omega, rfl, fun i hi => ?_⟩
    by_cases e2 : i = k1
    · subst e2; exact ⟨p, hp, hp2, pk_us⟩
    · rw [pk_un (by omega)]; exact hpe i (by omega)
  · rw [pk_un e]
    refine ⟨k1, hk1, hct1, fun i hi => ?_⟩
    rw [pk_un (by omega)]; exact hpe i hi
theorem pr_C_sub {c0 k : Nat} (h0 : c0 < 4) (hct : ct c0 = nI (k + 1)) (hk : k < 8) (I : ∀ c, c < 4 → pr_C po ct sp sb pe c) : ∀ c, c < 4 → pr_C po (upd ct c0 (nI k)) sp sb pe c := by
  intro c hc
  obtain ⟨h1, ⟨k1, hk1, hct1, hpe⟩, h3⟩ := I c hc
  refine ⟨h1, ?_, h3⟩
  by_cases e : c = c0
  · subst e
    rw [pk_us]
    have ek : k1 = k + 1 := (nI_eq (by omega) (by omega)).mp (hct1.symm.trans hct)
    exact ⟨k, by omega, rfl, fun i hi => hpe i (by omega)⟩
  · rw [pk_un e]; exact ⟨k1, hk1, hct1, hpe⟩
theorem pr_xrmif {post : St2 → Prop} {c : Nat} (hc : c < 4) (H : post (hz, nw, ad, po, ct, upd sp c 0, upd sb c 0, pe, wc, re, ex, mi, le)) : wpX_removeInterface post (hz, nw, ad, po, ct, sp, sb, pe, wc, re, ex, mi, le) (nI c) := by
  have hcl : (nI c).toNatClampNeg = c := nI_clamp (by omega)
  exact ⟨pr_i4 hc, nm_r (by rw [hcl]) ⟨pr_i4 hc, nm_r (by rw [hcl]) H⟩⟩
end PR06

section PR11
/-! a time within 0 .. 100000 -/
theorem pr_xtime {post : Int32 → Prop} {x : Int32} (h0 : ¬ (∃ t, t ≤ 100000 ∧ x = nI t) → post 0) (h1 : ∀ t, t ≤ 100000 → x = nI t → post 1) : wpX_isBoundTime post () x := by
  refine br_c (fun z => h0 ?_) (fun z => br_c (fun z2 => h0 ?_) (fun z2 => ?_))
  · rintro ⟨t, ht, rfl⟩; exact nI_pos (by omega) z
  · rintro ⟨t, ht, rfl⟩; exact nI_nlt (a := 100000) ht (by omega) z2
  · obtain ⟨t, ht, rfl⟩ := nI_of z
    have h : t ≤ 100000 := by
      have h5 : ¬ nI 100000 < nI t := z2
      rw [nI_ltI (by omega) ht] at h5
      omega
    exact h1 t h rfl
/-! a task of a component -/
theorem pr_xtask {post : Int32 → Prop} {hz nw ad : Int32} {po ct sp sb pe wc re ex mi le : Nat → Int32} {x y : Int32} (I : ∀ c, c < 4 → pr_C po ct sp sb pe c)
    (h0 : ¬ (∃ c, c < 4 ∧ x = nI c) → post 0) (h1 : ∀ c, c < 4 → x = nI c → ¬ (∃ j n, j < n ∧ n ≤ 8 ∧ ct c = nI n ∧ y = nI j) → post 0) (h2 : ∀ c, c < 4 → x = nI c → ∀ j n, j < n → n ≤ 8 → ct c = nI n → y = nI j → post 1) :
    wpX_isTask post (hz, nw, ad, po, ct, sp, sb, pe, wc, re, ex, mi, le) x y := by
  unfold wpX_isTask
  refine pr_xcomp (fun z => br_t rfl (h0 z)) (fun c hc e => br_f pr_10 ?_)
  subst e
  have hcl : (nI c).toNatClampNeg = c := nI_clamp (by omega)
  obtain ⟨-, ⟨n, hn, hct, -⟩, -⟩ := I c hc
  refine br_c (fun z => h1 c hc rfl ?_) (fun z => ⟨pr_i4 hc, ?_⟩)
  · rintro ⟨j, m, h, hm, -, rfl⟩; exact nI_pos (by omega) z
  · obtain ⟨j, hj, rfl⟩ := nI_of z
    have hcc : ct (nI c).toNatClampNeg = nI n := by rw [hcl]; exact hct
    refine pk_le n j (fun y => h1 c hc rfl ?_) (fun y => h2 c hc rfl j n y hn hct rfl) hcc
    rintro ⟨j2, m, h, hm, e1, e2⟩
    have e3 : n = m := (nI_eq (by omega) (by omega)).mp (hct.symm.trans e1)
    have e4 : j = j2 := (nI_eq hj (by omega)).mp e2
    omega
/-! Y: the same test -/
end PR11

section PR07
variable {hz nw ad : Int32} {po ct sp sb pe wc re ex mi le : Nat → Int32}
theorem pr_inv0 {H : Nat} (h1 : 64 ≤ H) (h2 : H ≤ 256) (ha : ad = 0 ∨ ad = 1) (I : ∀ c, c < 4 → pr_C po ct sp sb pe c) : pr_Inv (nI H) 0 ad po ct sp sb pe :=
  ⟨⟨H, 0, rfl, rfl, h1, h2, Nat.zero_le _⟩, ha, I⟩
theorem pr_C0 : ∀ c, c < 4 → pr_C (fun _ => 0) (fun _ => 0) (fun _ => 0) (fun _ => 0) (fun _ => 0) c := by
  intro c hc
  exact ⟨Or.inl rfl, ⟨0, by omega, rfl, fun i hi => absurd hi (by omega)⟩, ⟨0, 0, by omega, by omega, rfl, rfl⟩⟩
/-! Y's component test, passed -/
/-! setPolicy -/
theorem pr_xsp18 {post : Int32 → St2 → Prop} {c : Nat} {x : Int32} (hc : c < 4) (hx : x = 0 ∨ x = 1) (I : ∀ c, c < 4 → pr_C po ct sp sb pe c)
    (H : post 1 (hz, 0, 0, upd po c x, ct, upd sp c 0, upd sb c 0, pe, wc, pr_rsR wc ct re 4, pr_rsR (fun _ => 0) ct ex 4, pr_fill (fun _ => 0) mi 0 4, pr_fill (pr_rsL (upd sp c 0) (upd sb c 0)) le 0 4)) :
    wX_setPolicy_18 post (nI c) x hz nw ad po ct sp sb pe wc re ex mi le := by
  have hcl : (nI c).toNatClampNeg = c := nI_clamp (by omega)
  refine ⟨pr_i4 hc, nm_r (e' := upd po c x) (by rw [hcl]) ?_⟩
  refine pr_xrmif hc ?_
  exact pr_xinval (pr_C_rm (pr_C_pol hx I)) H
/-! addTask -/
/-! removeLastTask -/
/-! computeInterface -/
theorem pr_xper {post : Int32 → Prop} {x : Int32} (h0 : ¬ (∃ p, 1 ≤ p ∧ p ≤ 32 ∧ x = nI p) → post 0) (h1 : ∀ p, 1 ≤ p → p ≤ 32 → x = nI p → post 1) : wpX_isInterfacePeriod post () x := by
  refine br_c (fun z => h0 ?_) (fun z => br_c (fun z2 => h0 ?_) (fun z2 => ?_))
  · rintro ⟨p, hp, hp2, rfl⟩; exact nI_nlt (b := 1) hp (by omega) z
  · rintro ⟨p, hp, hp2, rfl⟩; exact nI_nlt (a := 32) hp2 (by omega) z2
  · have n0 : ¬ x < 0 := fun y => z (Int32.lt_trans y (by decide))
    obtain ⟨p, hp, rfl⟩ := nI_of n0
    have hp1 : 1 ≤ p := by
      have h5 : ¬ nI p < nI 1 := z
      rw [nI_ltI hp (by omega)] at h5
      omega
    have hp2 : p ≤ 32 := by
      have h5 : ¬ nI 32 < nI p := z2
      rw [nI_ltI (by omega) hp] at h5
      omega
    exact h1 p hp1 hp2 rfl
theorem pr_m1n : ¬ (0 : Int32) ≤ -1 := by decide
theorem pr_ansne {q : Nat} (hq : q < 2 ^ 31) : ¬ nI q = -2 := by
  intro e
  have h := nI_pos (n := q) hq
  rw [e] at h
  exact h (by decide)
end PR07

section PR03
variable {hz nw ad : Int32} {po ct sp sb pe wc re ex mi le : Nat → Int32}
/-! has an interface -/
theorem pr_xhas {post : Int32 → Prop} {c : Nat} (hc : c < 4) (h0 : sp c = 0 → post 0) (h1 : ¬ sp c = 0 → post 1) : wpX_hasInterface post (hz, nw, ad, po, ct, sp, sb, pe, wc, re, ex, mi, le) (nI c) := by
  refine ⟨pr_i4 hc, ?_⟩
  rw [pr_cl (c := c) (by omega)]
  exact ⟨h0, h1⟩
/-! RESET, each side against the filled arrays -/
def pr_rsL (sp sb : Nat → Int32) : Nat → Int32 := fun c => if sp c = 0 then 0 else sb c
def pr_rsR (g ct a : Nat → Int32) : Nat → (Nat → Int32)
  | 0 => a
  | c + 1 => pr_fill g (pr_rsR g ct a c) (c * 8) (c * 8 + pr_K ct c)
theorem pr_x60 {post : St2 → Prop} {J : Int32 → (Nat → Int32) → (Nat → Int32) → (Nat → Int32) → (Nat → Int32) → (Nat → Int32) → (Nat → Int32) → (Nat → Int32) → (Nat → Int32) → (Nat → Int32) → (Nat → Int32) → Prop} {c k : Nat} (hc : c < 4) (hk : k ≤ 8)
    (H : J (nI (c + 1)) po ct sp sb pe wc (pr_fill wc re (c * 8) (c * 8 + k)) (pr_fill (fun _ => 0) ex (c * 8) (c * 8 + k)) mi le) :
    ∀ d i, i + d = k → wX_reset_60 post J (nI c) (nI (c * 8 + k)) hz nw ad (d + 1) (nI (c * 8 + i)) po ct sp sb pe wc (pr_fill wc re (c * 8) (c * 8 + i)) (pr_fill (fun _ => 0) ex (c * 8) (c * 8 + i)) mi le := by
  intro d
  induction d with
  | zero =>
    intro i hi
    have e : i = k := by omega
    subst e
    exact pk_le (c * 8 + i) (c * 8 + i) (fun _ => nm_r (nI_1 c) H) (fun z => absurd z (by omega))
  | succ d ih =>
    intro i hi
    have hin : vp_in (nI (c * 8 + i)) 32 := pr_i32 hc (by omega)
    have hcl : (nI (c * 8 + i)).toNatClampNeg = c * 8 + i := nI_clamp (by omega)
    refine pk_le (c * 8 + k) (c * 8 + i) (fun z => absurd z (by omega)) (fun _ => ⟨hin, hin, nm_r (e' := pr_fill wc re (c * 8) (c * 8 + (i + 1))) ?_ ⟨hin, nm_r (e' := pr_fill (fun _ => 0) ex (c * 8) (c * 8 + (i + 1))) ?_ (nm_r (e' := nI (c * 8 + (i + 1))) (nI_1 _) (ih (i + 1) (by omega)))⟩⟩)
    · rw [hcl]; exact pr_fillS (by omega)
    · rw [hcl]; exact pr_fillS (g := fun _ => 0) (by omega)
theorem pr_x42 {post : St2 → Prop} {J : Int32 → (Nat → Int32) → (Nat → Int32) → (Nat → Int32) → (Nat → Int32) → (Nat → Int32) → (Nat → Int32) → (Nat → Int32) → (Nat → Int32) → (Nat → Int32) → (Nat → Int32) → Prop} {c k : Nat} {z0 : Int32} (hc : c < 4) (hk : k ≤ 8) (hct : ct c = nI k) (hz0 : z0 = pr_rsL sp sb c)
    (H : J (nI (c + 1)) po ct sp sb pe wc (pr_fill wc re (c * 8) (c * 8 + k)) (pr_fill (fun _ => 0) ex (c * 8) (c * 8 + k)) mi (pr_fill (pr_rsL sp sb) le 0 (c + 1))) :
    wX_reset_42 post J (nI c) z0 (nI c) hz nw ad po ct sp sb pe wc re ex mi (pr_fill (pr_rsL sp sb) le 0 c) := by
  have hcl : (nI c).toNatClampNeg = c := nI_clamp (by omega)
  have W := pr_x60 (post := post) (hz := hz) (nw := nw) (ad := ad) hc hk H k 0 (by omega)
  rw [pr_fill00, pr_fill00] at W
  refine ⟨pr_i4 hc, nm_r (e' := pr_fill (pr_rsL sp sb) le 0 (c + 1)) ?_ (nm_r (e' := nI (c * 8)) (pr_m8 c) ⟨pr_i4 hc, nm_r (e' := nI (c * 8 + k)) ?_ ⟨k + 1, W⟩⟩)⟩
  · rw [hcl, hz0]; exact pr_fillS (Nat.zero_le _)
  · rw [hcl, hct]; exact nI_add _ _
theorem pr_x7 {post : St2 → Prop} (I : ∀ c, c < 4 → pr_C po ct sp sb pe c)
    (H : post (hz, nw, ad, po, ct, sp, sb, pe, wc, pr_rsR wc ct re 4, pr_rsR (fun _ => 0) ct ex 4, pr_fill (fun _ => 0) mi 0 4, pr_fill (pr_rsL sp sb) le 0 4)) :
    ∀ d c, c + d = 4 → wX_reset_7 post hz nw ad (d + 1) (nI c) po ct sp sb pe wc (pr_rsR wc ct re c) (pr_rsR (fun _ => 0) ct ex c) (pr_fill (fun _ => 0) mi 0 c) (pr_fill (pr_rsL sp sb) le 0 c) := by
  intro d
  induction d with
  | zero =>
    intro c hc
    have e : c = 4 := by omega
    subst e
    exact pk_le 4 4 (fun _ => H) (fun z => absurd z (by omega))
  | succ d ih =>
    intro c hc
    have hc4 : c < 4 := by omega
    have hcl : (nI c).toNatClampNeg = c := nI_clamp (by omega)
    obtain ⟨-, ⟨k, hk, hct, -⟩, -⟩ := I c hc4
    have hK : pr_K ct c = k := pr_Ke hct (by omega)
    have W := ih (c + 1) (by omega)
    rw [show pr_rsR wc ct re (c + 1) = pr_fill wc (pr_rsR wc ct re c) (c * 8) (c * 8 + k) from by rw [← hK]; rfl, show pr_rsR (fun _ => 0) ct ex (c + 1) = pr_fill (fun _ => 0) (pr_rsR (fun _ => 0) ct ex c) (c * 8) (c * 8 + k) from by rw [← hK]; rfl] at W
    refine pk_le 4 c (fun z => absurd z (by omega)) (fun _ => ⟨pr_i4 hc4, nm_r (e' := pr_fill (fun _ => 0) mi 0 (c + 1)) ?_ (pr_xhas hc4 (fun z => br_t rfl (pr_x42 hc4 hk hct ?_ W)) (fun z => br_f pr_10 ⟨pr_i4 hc4, pr_x42 hc4 hk hct ?_ W⟩))⟩)
    · rw [hcl]; exact pr_fillS (g := fun _ => 0) (Nat.zero_le _)
    · exact (if_pos z).symm
    · rw [hcl]; exact (if_neg z).symm
theorem pr_xreset {post : St2 → Prop} (I : ∀ c, c < 4 → pr_C po ct sp sb pe c)
    (H : post (hz, 0, ad, po, ct, sp, sb, pe, wc, pr_rsR wc ct re 4, pr_rsR (fun _ => 0) ct ex 4, pr_fill (fun _ => 0) mi 0 4, pr_fill (pr_rsL sp sb) le 0 4)) :
    wpX_reset post (hz, nw, ad, po, ct, sp, sb, pe, wc, re, ex, mi, le) := by
  have W := pr_x7 (wc := wc) (re := re) (ex := ex) (mi := mi) (le := le) I H 4 0 (by omega)
  rw [pr_fill0, pr_fill0] at W
  exact ⟨5, W⟩
theorem pr_xinval {post : St2 → Prop} (I : ∀ c, c < 4 → pr_C po ct sp sb pe c)
    (H : post (hz, 0, 0, po, ct, sp, sb, pe, wc, pr_rsR wc ct re 4, pr_rsR (fun _ => 0) ct ex 4, pr_fill (fun _ => 0) mi 0 4, pr_fill (pr_rsL sp sb) le 0 4)) :
    wpX_invalidate post (hz, nw, ad, po, ct, sp, sb, pe, wc, re, ex, mi, le) := by
  unfold wpX_invalidate
  exact pr_xreset I H
/-! the reference -/
end PR03

section PR10
variable {hz nw ad : Int32} {po ct sp sb pe wc re ex mi le : Nat → Int32}
/-! budgets refilled -/
def pr_rm (nw p : Int32) : Int32 := nw - nw / p * p
def pr_rf (nw : Int32) (sp sb le : Nat → Int32) : Nat → Int32 := fun c => if sp c = 0 then le c else if pr_rm nw (sp c) = 0 then sb c else le c
theorem pr_xrf2 {post : SX → Prop} (H : post (hz, nw, ad, po, ct, sp, sb, pe, wc, re, ex, mi, pr_fill (pr_rf nw sp sb le) le 0 4)) :
    ∀ d c, c + d = 4 → wX_refillBudgets_2 post hz nw ad (d + 1) (nI c) po ct sp sb pe wc re ex mi (pr_fill (pr_rf nw sp sb le) le 0 c) := by
  intro d
  induction d with
  | zero =>
    intro c hc
    have e : c = 4 := by omega
    subst e
    exact pk_le 4 4 (fun _ => H) (fun z => absurd z (by omega))
  | succ d ih =>
    intro c hc
    have hc4 : c < 4 := by omega
    have hcl : (nI c).toNatClampNeg = c := nI_clamp (by omega)
    have W := ih (c + 1) (by omega)
    refine pk_le 4 c (fun z => absurd z (by omega)) (fun _ => pr_xhas hc4 (fun h1 => br_t rfl (nm_r (e' := nI (c + 1)) (nI_1 _) ?_)) (fun h1 => br_f pr_10 ⟨pr_i4 hc4, ?_⟩))
    · rw [← pr_fillN (show pr_rf nw sp sb le c = le c from if_pos h1)] at W; exact W
    · rw [hcl]
      refine ⟨h1, br_c (fun h2 => ⟨pr_i4 hc4, pr_i4 hc4, nm_r (e' := pr_fill (pr_rf nw sp sb le) le 0 (c + 1)) ?_ (nm_r (e' := nI (c + 1)) (nI_1 _) W)⟩) (fun h2 => nm_r (e' := nI (c + 1)) (nI_1 _) ?_)⟩
      · have e : sb c = pr_rf nw sp sb le c := by
          show sb c = if sp c = 0 then le c else if pr_rm nw (sp c) = 0 then sb c else le c
          rw [if_neg h1, if_pos (show pr_rm nw (sp c) = 0 from h2)]
        rw [e]; exact pr_fillS (Nat.zero_le _)
      · have e : pr_rf nw sp sb le c = le c := by
          show (if sp c = 0 then le c else if pr_rm nw (sp c) = 0 then sb c else le c) = le c
          rw [if_neg h1, if_neg (show ¬ pr_rm nw (sp c) = 0 from h2)]
        rw [← pr_fillN e] at W; exact W
theorem pr_xrf {post : SX → Prop} (H : post (hz, nw, ad, po, ct, sp, sb, pe, wc, re, ex, mi, pr_fill (pr_rf nw sp sb le) le 0 4)) :
    wpX_refillBudgets post (hz, nw, ad, po, ct, sp, sb, pe, wc, re, ex, mi, le) := by
  have W := pr_xrf2 (le := le) H 4 0 (by omega)
  rw [pr_fill0] at W
  exact ⟨5, W⟩
/-! jobs released -/
def pr_rj (nw : Int32) (pe wc : Nat → Int32) (c b : Nat) (s : (Nat → Int32) × (Nat → Int32)) : Nat → (Nat → Int32) × (Nat → Int32)
  | 0 => s
  | i + 1 => if pr_rm nw (pe (b + i)) = 0 then (if (pr_rj nw pe wc c b s i).2 (b + i) ≤ 0 then (pr_rj nw pe wc c b s i).1 else upd (pr_rj nw pe wc c b s i).1 c ((pr_rj nw pe wc c b s i).1 c + 1), upd (pr_rj nw pe wc c b s i).2 (b + i) (wc (b + i))) else pr_rj nw pe wc c b s i
def pr_rl (nw : Int32) (ct pe wc : Nat → Int32) (s : (Nat → Int32) × (Nat → Int32)) : Nat → (Nat → Int32) × (Nat → Int32)
  | 0 => s
  | c + 1 => pr_rj nw pe wc c (c * 8) (pr_rl nw ct pe wc s c) (pr_K ct c)
section PR10S
variable {c b i : Nat} {s : (Nat → Int32) × (Nat → Int32)}
theorem pr_rj0 (h : ¬ pr_rm nw (pe (b + i)) = 0) : pr_rj nw pe wc c b s (i + 1) = pr_rj nw pe wc c b s i := if_neg h
theorem pr_rj1 (h : pr_rm nw (pe (b + i)) = 0) (h2 : (pr_rj nw pe wc c b s i).2 (b + i) ≤ 0) : pr_rj nw pe wc c b s (i + 1) = ((pr_rj nw pe wc c b s i).1, upd (pr_rj nw pe wc c b s i).2 (b + i) (wc (b + i))) := by
  have e : pr_rj nw pe wc c b s (i + 1) = (if (pr_rj nw pe wc c b s i).2 (b + i) ≤ 0 then (pr_rj nw pe wc c b s i).1 else upd (pr_rj nw pe wc c b s i).1 c ((pr_rj nw pe wc c b s i).1 c + 1), upd (pr_rj nw pe wc c b s i).2 (b + i) (wc (b + i))) := if_pos h
  rw [e, if_pos h2]
theorem pr_rj2 (h : pr_rm nw (pe (b + i)) = 0) (h2 : ¬ (pr_rj nw pe wc c b s i).2 (b + i) ≤ 0) : pr_rj nw pe wc c b s (i + 1) = (upd (pr_rj nw pe wc c b s i).1 c ((pr_rj nw pe wc c b s i).1 c + 1), upd (pr_rj nw pe wc c b s i).2 (b + i) (wc (b + i))) := by
  have e : pr_rj nw pe wc c b s (i + 1) = (if (pr_rj nw pe wc c b s i).2 (b + i) ≤ 0 then (pr_rj nw pe wc c b s i).1 else upd (pr_rj nw pe wc c b s i).1 c ((pr_rj nw pe wc c b s i).1 c + 1), upd (pr_rj nw pe wc c b s i).2 (b + i) (wc (b + i))) := if_pos h
  rw [e, if_neg h2]
end PR10S
theorem pr_xrj24 {post : SX → Prop} {J : Int32 → (Nat → Int32) → (Nat → Int32) → (Nat → Int32) → (Nat → Int32) → (Nat → Int32) → (Nat → Int32) → (Nat → Int32) → (Nat → Int32) → (Nat → Int32) → (Nat → Int32) → Prop} {c k : Nat} {s : (Nat → Int32) × (Nat → Int32)} (hc : c < 4) (hk : k ≤ 8) (hp : ∀ i, i < k → ¬ pe (c * 8 + i) = 0)
    (H : J (nI (c + 1)) po ct sp sb pe wc (pr_rj nw pe wc c (c * 8) s k).2 ex (pr_rj nw pe wc c (c * 8) s k).1 le) :
    ∀ d i, i + d = k → wX_releaseJobs_24 post J (nI c) (nI (c * 8 + k)) hz nw ad (d + 1) (nI (c * 8 + i)) po ct sp sb pe wc (pr_rj nw pe wc c (c * 8) s i).2 ex (pr_rj nw pe wc c (c * 8) s i).1 le := by
  have hcc : (nI c).toNatClampNeg = c := nI_clamp (by omega)
  intro d
  induction d with
  | zero =>
    intro i hi
    have e : i = k := by omega
    subst e
    exact pk_le (c * 8 + i) (c * 8 + i) (fun _ => nm_r (nI_1 c) H) (fun z => absurd z (by omega))
  | succ d ih =>
    intro i hi
    have hin : vp_in (nI (c * 8 + i)) 32 := pr_i32 hc (by omega)
    have hcl : (nI (c * 8 + i)).toNatClampNeg = c * 8 + i := nI_clamp (by omega)
    have W := ih (i + 1) (by omega)
    refine pk_le (c * 8 + k) (c * 8 + i) (fun z => absurd z (by omega)) (fun _ => ⟨hin, ?_⟩)
    rw [hcl]
    refine ⟨hp i (by omega), br_c (fun h => ⟨hin, br_c (fun h2 => ?_) (fun h2 => ⟨pr_i4 hc, pr_i4 hc, ?_⟩)⟩) (fun h => nm_r (e' := nI (c * 8 + (i + 1))) (nI_1 _) ?_)⟩
    · rw [pr_rj1 h h2] at W
      exact ⟨hin, hin, nm_r (e' := upd (pr_rj nw pe wc c (c * 8) s i).2 (c * 8 + i) (wc (c * 8 + i))) (by rw [hcl]) (nm_r (e' := nI (c * 8 + (i + 1))) (nI_1 _) W)⟩
    · rw [pr_rj2 h h2] at W
      exact nm_r (e' := upd (pr_rj nw pe wc c (c * 8) s i).1 c ((pr_rj nw pe wc c (c * 8) s i).1 c + 1)) (by rw [hcc]) ⟨hin, hin, nm_r (e' := upd (pr_rj nw pe wc c (c * 8) s i).2 (c * 8 + i) (wc (c * 8 + i))) (by rw [hcl]) (nm_r (e' := nI (c * 8 + (i + 1))) (nI_1 _) W)⟩
    · rw [pr_rj0 h] at W; exact W
theorem pr_xrl2 {post : SX → Prop} {s : (Nat → Int32) × (Nat → Int32)} (I : ∀ c, c < 4 → pr_C po ct sp sb pe c)
    (H : post (hz, nw, ad, po, ct, sp, sb, pe, wc, (pr_rl nw ct pe wc s 4).2, ex, (pr_rl nw ct pe wc s 4).1, le)) :
    ∀ d c, c + d = 4 → wX_releaseJobs_2 post hz nw ad (d + 1) (nI c) po ct sp sb pe wc (pr_rl nw ct pe wc s c).2 ex (pr_rl nw ct pe wc s c).1 le := by
  intro d
  induction d with
  | zero =>
    intro c hc
    have e : c = 4 := by omega
    subst e
    exact pk_le 4 4 (fun _ => H) (fun z => absurd z (by omega))
  | succ d ih =>
    intro c hc
    have hc4 : c < 4 := by omega
    have hcl : (nI c).toNatClampNeg = c := nI_clamp (by omega)
    obtain ⟨-, ⟨k, hk, hct, hpe⟩, -⟩ := I c hc4
    have W := ih (c + 1) (by omega)
    rw [show pr_rl nw ct pe wc s (c + 1) = pr_rj nw pe wc c (c * 8) (pr_rl nw ct pe wc s c) k from by rw [← pr_Ke hct (by omega)]; rfl] at W
    have V := pr_xrj24 (post := post) (hz := hz) (ad := ad) hc4 hk (pr_nz hpe) W k 0 (by omega)
    refine pk_le 4 c (fun z => absurd z (by omega)) (fun _ => nm_r (e' := nI (c * 8)) (pr_m8 c) ⟨pr_i4 hc4, nm_r (e' := nI (c * 8 + k)) ?_ ⟨k + 1, V⟩⟩)
    rw [hcl, hct]; exact nI_add _ _
theorem pr_xrl {post : SX → Prop} (I : ∀ c, c < 4 → pr_C po ct sp sb pe c)
    (H : post (hz, nw, ad, po, ct, sp, sb, pe, wc, (pr_rl nw ct pe wc (mi, re) 4).2, ex, (pr_rl nw ct pe wc (mi, re) 4).1, le)) :
    wpX_releaseJobs post (hz, nw, ad, po, ct, sp, sb, pe, wc, re, ex, mi, le) :=
  ⟨5, pr_xrl2 (s := (mi, re)) I H 4 0 (by omega)⟩
theorem pr_xtail {post : SX → Prop} (I : ∀ c, c < 4 → pr_C po ct sp sb pe c)
    (H : post (hz, nw + 1, ad, po, ct, sp, sb, pe, wc, (pr_rl (nw + 1) ct pe wc (mi, re) 4).2, ex, (pr_rl (nw + 1) ct pe wc (mi, re) 4).1, pr_fill (pr_rf (nw + 1) sp sb le) le 0 4)) :
    wX_simulateUnit_25 post hz nw ad po ct sp sb pe wc re ex mi le := by
  refine nm_e ?_
  refine pr_xrf ?_
  exact pr_xrl I H
/-! the reference's -/
theorem pr_yu297 {post : SY → Prop} {J : Int32 → (Nat → Int32) → (Nat → Int32) → (Nat → Int32) → (Nat → Int32) → (Nat → Int32) → (Nat → Int32) → (Nat → Int32) → (Nat → Int32) → (Nat → Int32) → (Nat → Int32) → Prop} {c k : Nat} {s : (Nat → Int32) × (Nat → Int32)} (hc : c < 4) (hk : k ≤ 8) (hct : ct c = nI k) (hp : ∀ i, i < k → ¬ pe (c * 8 + i) = 0)
    (H : J (nI (c + 1)) po ct sp sb (pr_rj nw pe wc c (c * 8) s k).1 le pe wc (pr_rj nw pe wc c (c * 8) s k).2 ex) :
    ∀ d i, i + d = k → wY_unit_297 post J (nI c) hz nw ad (d + 1) (nI i) po ct sp sb (pr_rj nw pe wc c (c * 8) s i).1 le pe wc (pr_rj nw pe wc c (c * 8) s i).2 ex := by
  have hcc : (nI c).toNatClampNeg = c := nI_clamp (by omega)
  have hctc : ct (nI c).toNatClampNeg = nI k := by rw [hcc]; exact hct
  intro d
  induction d with
  | zero =>
    intro i hi
    have e : i = k := by omega
    subst e
    exact ⟨pr_i4 hc, pk_le i i (fun _ => nm_r (nI_1 c) H) (fun z => absurd z (by omega)) hctc⟩
  | succ d ih =>
    intro i hi
    have hin : vp_in (nI (c * 8 + i)) 32 := pr_i32 hc (by omega)
    have hcl : (nI (c * 8 + i)).toNatClampNeg = c * 8 + i := nI_clamp (by omega)
    have W := ih (i + 1) (by omega)
    refine ⟨pr_i4 hc, pk_le k i (fun z => absurd z (by omega)) (fun _ => nm_r (e' := nI (c * 8 + i)) (pr_sl c i) ⟨hin, ?_⟩) hctc⟩
    rw [hcl]
    refine ⟨hp i (by omega), br_c (fun h => ⟨hin, br_c (fun h2 => ?_) (fun h2 => ⟨pr_i4 hc, pr_i4 hc, ?_⟩)⟩) (fun h => nm_r (e' := nI (i + 1)) (nI_1 _) ?_)⟩
    · rw [pr_rj1 h h2] at W
      exact ⟨hin, hin, nm_r (e' := upd (pr_rj nw pe wc c (c * 8) s i).2 (c * 8 + i) (wc (c * 8 + i))) (by rw [hcl]) (nm_r (e' := nI (i + 1)) (nI_1 _) W)⟩
    · rw [pr_rj2 h h2] at W
      exact nm_r (e' := upd (pr_rj nw pe wc c (c * 8) s i).1 c ((pr_rj nw pe wc c (c * 8) s i).1 c + 1)) (by rw [hcc]) ⟨hin, hin, nm_r (e' := upd (pr_rj nw pe wc c (c * 8) s i).2 (c * 8 + i) (wc (c * 8 + i))) (by rw [hcl]) (nm_r (e' := nI (i + 1)) (nI_1 _) W)⟩
    · rw [pr_rj0 h] at W; exact W
theorem pr_yu289 {post : SY → Prop} {s : (Nat → Int32) × (Nat → Int32)} (I : ∀ c, c < 4 → pr_C po ct sp sb pe c)
    (H : post (hz, nw, ad, po, ct, sp, sb, (pr_rl nw ct pe wc s 4).1, le, pe, wc, (pr_rl nw ct pe wc s 4).2, ex)) :
    ∀ d c, c + d = 4 → wY_unit_289 post hz nw ad (d + 1) (nI c) po ct sp sb (pr_rl nw ct pe wc s c).1 le pe wc (pr_rl nw ct pe wc s c).2 ex := by
  intro d
  induction d with
  | zero =>
    intro c hc
    have e : c = 4 := by omega
    subst e
    exact pk_le 4 4 (fun _ => H) (fun z => absurd z (by omega))
  | succ d ih =>
    intro c hc
    have hc4 : c < 4 := by omega
    obtain ⟨-, ⟨k, hk, hct, hpe⟩, -⟩ := I c hc4
    have W := ih (c + 1) (by omega)
    rw [show pr_rl nw ct pe wc s (c + 1) = pr_rj nw pe wc c (c * 8) (pr_rl nw ct pe wc s c) k from by rw [← pr_Ke hct (by omega)]; rfl] at W
    have V := pr_yu297 (post := post) (hz := hz) (ad := ad) hc4 hk hct (pr_nz hpe) W k 0 (by omega)
    exact pk_le 4 c (fun z => absurd z (by omega)) (fun _ => ⟨k + 1, V⟩)
theorem pr_yu241 {post : SY → Prop} (I : ∀ c, c < 4 → pr_C po ct sp sb pe c)
    (H : post (hz, nw, ad, po, ct, sp, sb, (pr_rl nw ct pe wc (mi, re) 4).1, pr_fill (pr_rf nw sp sb le) le 0 4, pe, wc, (pr_rl nw ct pe wc (mi, re) 4).2, ex)) :
    ∀ d c, c + d = 4 → wY_unit_241 post hz nw ad (d + 1) (nI c) po ct sp sb mi (pr_fill (pr_rf nw sp sb le) le 0 c) pe wc re ex := by
  intro d
  induction d with
  | zero =>
    intro c hc
    have e : c = 4 := by omega
    subst e
    exact pk_le 4 4 (fun _ => ⟨5, pr_yu289 (s := (mi, re)) I H 4 0 (by omega)⟩) (fun z => absurd z (by omega))
  | succ d ih =>
    intro c hc
    have hc4 : c < 4 := by omega
    have hcl : (nI c).toNatClampNeg = c := nI_clamp (by omega)
    obtain ⟨-, -, p, q, hp, hq, hsp, hsb⟩ := I c hc4
    have hspc : sp (nI c).toNatClampNeg = nI p := by rw [hcl]; exact hsp
    have W := ih (c + 1) (by omega)
    refine pk_le 4 c (fun z => absurd z (by omega)) (fun _ => ⟨pr_i4 hc4, pk_le p 0 (fun z => nm_r (e' := nI (c + 1)) (nI_1 _) ?_) (fun z => ⟨pr_i4 hc4, ?_⟩) hspc⟩)
    · have h1 : sp c = 0 := by rw [hsp, show p = 0 from by omega]; rfl
      rw [← pr_fillN (show pr_rf nw sp sb le c = le c from if_pos h1)] at W; exact W
    · have h1 : ¬ sp c = 0 := by rw [hsp]; exact nI_ne0 z (by omega)
      rw [hcl]
      refine ⟨h1, br_c (fun h2 => ⟨pr_i4 hc4, pr_i4 hc4, nm_r (e' := pr_fill (pr_rf nw sp sb le) le 0 (c + 1)) ?_ (nm_r (e' := nI (c + 1)) (nI_1 _) W)⟩) (fun h2 => nm_r (e' := nI (c + 1)) (nI_1 _) ?_)⟩
      · have e : sb c = pr_rf nw sp sb le c := by
          show sb c = if sp c = 0 then le c else if pr_rm nw (sp c) = 0 then sb c else le c
          rw [if_neg h1, if_pos (show pr_rm nw (sp c) = 0 from h2)]
        rw [e]; exact pr_fillS (Nat.zero_le _)
      · have e : pr_rf nw sp sb le c = le c := by
          show (if sp c = 0 then le c else if pr_rm nw (sp c) = 0 then sb c else le c) = le c
          rw [if_neg h1, if_neg (show ¬ pr_rm nw (sp c) = 0 from h2)]
        rw [← pr_fillN e] at W; exact W
theorem pr_ytail {post : SY → Prop} (I : ∀ c, c < 4 → pr_C po ct sp sb pe c)
    (H : post (hz, nw + 1, ad, po, ct, sp, sb, (pr_rl (nw + 1) ct pe wc (mi, re) 4).1, pr_fill (pr_rf (nw + 1) sp sb le) le 0 4, pe, wc, (pr_rl (nw + 1) ct pe wc (mi, re) 4).2, ex)) :
    wY_unit_229 post hz nw ad po ct sp sb mi le pe wc re ex := by
  have W := pr_yu241 (le := le) I H 4 0 (by omega)
  rw [pr_fill0] at W
  exact nm_e ⟨5, W⟩
/-! one unit on both sides -/
theorem pr_unit (I : ∀ c, c < 4 → pr_C po ct sp sb pe c) : ∃ re' ex' mi' le' : Nat → Int32,
    (∀ post : SX → Prop, post (hz, nw + 1, ad, po, ct, sp, sb, pe, wc, re', ex', mi', le') → wpX_simulateUnit post (hz, nw, ad, po, ct, sp, sb, pe, wc, re, ex, mi, le)) ∧
    (∀ post : SY → Prop, post (hz, nw + 1, ad, po, ct, sp, sb, mi', le', pe, wc, re', ex') → wpY_unit post (hz, nw, ad, po, ct, sp, sb, mi, le, pe, wc, re, ex)) := by
  cases pr_ch_in (nw := nw) (sp := sp) (le := le) 4 with
  | inl h =>
    refine ⟨(pr_rl (nw + 1) ct pe wc (mi, re) 4).2, ex, (pr_rl (nw + 1) ct pe wc (mi, re) 4).1, pr_fill (pr_rf (nw + 1) sp sb le) le 0 4, fun post H => ?_, fun post H => ⟨5, pr_yu6 I (fun _ => pr_ytail I H) (fun c hc e => ?_) 4 0 (by omega)⟩⟩
    · unfold wpX_simulateUnit
      refine pr_xch ?_
      rw [h]
      exact br_t rfl (pr_xtail I H)
    · rw [h] at e
      have h5 := nI_pos (n := c) (by omega)
      rw [← e] at h5
      exact absurd (by decide) h5
  | inr h =>
    obtain ⟨c, hc, h⟩ := h
    have hcl : (nI c).toNatClampNeg = c := nI_clamp (by omega)
    have hne : ¬ nI c = -1 := by
      intro e
      have h5 := nI_pos (n := c) (by omega)
      rw [e] at h5
      exact h5 (by decide)
    obtain ⟨hpo, ⟨k, hk, hct, hpe⟩, -⟩ := I c hc
    refine ⟨(pr_rl (nw + 1) ct pe wc (mi, (pr_svR (c * 8) re (pr_sel (decide (po c = 0)) nw pe re (c * 8) k).1)) 4).2, pr_svE (c * 8) ex (pr_sel (decide (po c = 0)) nw pe re (c * 8) k).1, (pr_rl (nw + 1) ct pe wc (mi, (pr_svR (c * 8) re (pr_sel (decide (po c = 0)) nw pe re (c * 8) k).1)) 4).1, pr_fill (pr_rf (nw + 1) sp sb (upd le c (le c - 1))) (upd le c (le c - 1)) 0 4, fun post H => ?_, fun post H => ⟨5, pr_yu6 I (fun e => absurd (h.symm.trans e) hne) (fun c' hc' e => ?_) 4 0 (by omega)⟩⟩
    · unfold wpX_simulateUnit
      refine pr_xch ?_
      rw [h]
      refine br_f hne ⟨pr_i4 hc, pr_i4 hc, nm_r (e' := upd le c (le c - 1)) (by rw [hcl]) ?_⟩
      refine pr_xserve hc hk hpo hct (pr_nz hpe) ?_
      exact pr_xtail I H
    · have ec : c = c' := (nI_eq (by omega) (by omega)).mp (h.symm.trans e)
      subst ec
      exact ⟨k + 1, pr_yu98 hc hk hct (pr_nz hpe) (pr_ytail I H) k 0 (by omega)⟩
/-! the loop of run -/
theorem pr_run (I : ∀ c, c < 4 → pr_C po ct sp sb pe c) {n : Nat} (hn : n < 2 ^ 31) : ∀ d i t, i + d = n → ∀ re ex mi le : Nat → Int32, ∃ re' ex' mi' le' : Nat → Int32,
    (∀ post : Int32 → SX → Prop, post (nI n) (hz, nI (t + d), ad, po, ct, sp, sb, pe, wc, re', ex', mi', le') → wX_run_38 post (nI n) (d + 1) (nI i) hz (nI t) ad po ct sp sb pe wc re ex mi le) ∧
    (∀ post : Int32 → SY → Prop, post (nI n) (hz, nI (t + d), ad, po, ct, sp, sb, mi', le', pe, wc, re', ex') → wY_run_35 post (nI n) (d + 1) (nI i) hz (nI t) ad po ct sp sb mi le pe wc re ex) := by
  intro d
  induction d with
  | zero =>
    intro i t hi re ex mi le
    exact ⟨re, ex, mi, le, fun post H => pk_le n i (fun _ => H) (fun z => absurd z (by omega)), fun post H => pk_le n i (fun _ => H) (fun z => absurd z (by omega))⟩
  | succ d ih =>
    intro i t hi re ex mi le
    obtain ⟨re1, ex1, mi1, le1, hX, hY⟩ := pr_unit (hz := hz) (nw := nI t) (ad := ad) (wc := wc) (re := re) (ex := ex) (mi := mi) (le := le) I
    obtain ⟨re2, ex2, mi2, le2, iX, iY⟩ := ih (i + 1) (t + 1) (by omega) re1 ex1 mi1 le1
    rw [nI_1] at hX hY
    rw [show t + 1 + d = t + (d + 1) from by omega] at iX iY
    refine ⟨re2, ex2, mi2, le2, fun post H => pk_le n i (fun z => absurd z (by omega)) (fun _ => hX _ ?_), fun post H => pk_le n i (fun z => absurd z (by omega)) (fun _ => hY _ ?_)⟩
    · exact nm_r (e' := nI (i + 1)) (nI_1 _) (iX post H)
    · exact nm_r (e' := nI (i + 1)) (nI_1 _) (iY post H)
theorem i_vc_run {k : Nat} {u : SX} {v : SY} (I : i_Rel k u v) (hk : k + 4 ≤ 2049) (v1 : Int32) : wpX_run (fun r u' => wpY_run (fun r' v' => r' = r ∧ i_Rel (k + 4) u' v') v v1) u v1 := by
  obtain ⟨hz, nw, ad, po, ct, sp, sb, pe, wc, re, ex, mi, le, rfl, rfl, J⟩ := I
  have R : i_Rel (k + 4) (hz, nw, ad, po, ct, sp, sb, pe, wc, re, ex, mi, le) (hz, nw, ad, po, ct, sp, sb, mi, le, pe, wc, re, ex) := pr_rel J
  obtain ⟨⟨H, t, rfl, rfl, h1, h2, h3⟩, ha, I⟩ := J
  by_cases a : ad = 0
  · exact br_t a (br_t a ⟨rfl, R⟩)
  refine br_f a ?_
  by_cases b : 1 ≤ v1
  · refine br_t b (nm_r (e' := nI (H - t)) (pk_sub h3) ?_)
    by_cases e : nI (H - t) ≤ v1
    · obtain ⟨re', ex', mi', le', hX, hY⟩ := pr_run (hz := nI H) (ad := ad) (wc := wc) I (n := H - t) (by omega) (H - t) 0 t (by omega) re ex mi le
      rw [show t + (H - t) = H from by omega] at hX hY
      refine br_t e ⟨H - t + 1, hX _ ?_⟩
      exact br_f a (br_t b (nm_r (e' := nI (H - t)) (pk_sub h3) (br_t e ⟨H - t + 1, hY _ ⟨rfl, pr_rel ⟨⟨H, H, rfl, rfl, h1, h2, Nat.le_refl _⟩, ha, I⟩⟩⟩)))
    · have n0 : ¬ v1 < 0 := fun y => absurd (Int32.lt_of_le_of_lt b y) (by decide)
      obtain ⟨n, hn, rfl⟩ := nI_of n0
      have hlt : n < H - t := by
        rw [nI_leI (by omega) hn] at e
        omega
      obtain ⟨re', ex', mi', le', hX, hY⟩ := pr_run (hz := nI H) (ad := ad) (wc := wc) I (n := n) hn n 0 t (by omega) re ex mi le
      refine br_f e ⟨n + 1, hX _ ?_⟩
      exact br_f a (br_t b (nm_r (e' := nI (H - t)) (pk_sub h3) (br_f e ⟨n + 1, hY _ ⟨rfl, pr_rel ⟨⟨H, t + n, rfl, rfl, h1, h2, by omega⟩, ha, I⟩⟩⟩)))
  · exact br_f b (br_f a (br_f b ⟨rfl, R⟩))
end PR10

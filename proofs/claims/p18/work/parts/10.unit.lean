section PR10
variable {hz nw ad : Int32} {po ct sp sb pe wc re ex mi le : Nat → Int32}
/-! budgets refilled -/
def pr_rm (nw p : Int32) : Int32 := nw - nw / p * p
def pr_rf (nw : Int32) (sp sb le : Nat → Int32) : Nat → Int32 := fun c => if sp c = 0 then le c else if pr_rm nw (sp c) = 0 then sb c else le c
theorem pr_xrf2 {post : St2 → Prop} (H : post (hz, nw, ad, po, ct, sp, sb, pe, wc, re, ex, mi, pr_fill (pr_rf nw sp sb le) le 0 4)) :
    ∀ d c, c + d = 4 → wX_refillBudgets_2 post hz nw ad (d + 1) (nI c) po ct sp sb pe wc re ex mi (pr_fill (pr_rf nw sp sb le) le 0 c) := by
  intro d
  induction d with
  | zero =>
    intro c hc
    have e : c = 4 := by omega
    subst e
    exact pk_le 4 4 (fun _ => H) (fun z => absurd z (by omega))
  | succ d ih =>
    intro c hc
    have hc4 : c < 4 := by omega
    have hcl : (nI c).toNatClampNeg = c := nI_clamp (by omega)
    have W := ih (c + 1) (by omega)
    refine pk_le 4 c (fun z => absurd z (by omega)) (fun _ => pr_xhas hc4 (fun h1 => br_t rfl (nm_r (e' := nI (c + 1)) (nI_1 _) ?_)) (fun h1 => br_f pr_10 ⟨pr_i4 hc4, ?_⟩))
    · rw [← pr_fillN (show pr_rf nw sp sb le c = le c from if_pos h1)] at W; exact W
    · rw [hcl]
      refine ⟨h1, br_c (fun h2 => ⟨pr_i4 hc4, pr_i4 hc4, nm_r (e' := pr_fill (pr_rf nw sp sb le) le 0 (c + 1)) ?_ (nm_r (e' := nI (c + 1)) (nI_1 _) W)⟩) (fun h2 => nm_r (e' := nI (c + 1)) (nI_1 _) ?_)⟩
      · have e : sb c = pr_rf nw sp sb le c := by
          show sb c = if sp c = 0 then le c else if pr_rm nw (sp c) = 0 then sb c else le c
          rw [if_neg h1, if_pos (show pr_rm nw (sp c) = 0 from h2)]
        rw [e]; exact pr_fillS (Nat.zero_le _)
      · have e : pr_rf nw sp sb le c = le c := by
          show (if sp c = 0 then le c else if pr_rm nw (sp c) = 0 then sb c else le c) = le c
          rw [if_neg h1, if_neg (show ¬ pr_rm nw (sp c) = 0 from h2)]
        rw [← pr_fillN e] at W; exact W
theorem pr_xrf {post : St2 → Prop} (H : post (hz, nw, ad, po, ct, sp, sb, pe, wc, re, ex, mi, pr_fill (pr_rf nw sp sb le) le 0 4)) :
    wpX_refillBudgets post (hz, nw, ad, po, ct, sp, sb, pe, wc, re, ex, mi, le) := by
  have W := pr_xrf2 (le := le) H 4 0 (by omega)
  rw [pr_fill0] at W
  exact ⟨5, W⟩
/-! jobs released -/
def pr_rj (nw : Int32) (pe wc : Nat → Int32) (c b : Nat) (s : (Nat → Int32) × (Nat → Int32)) : Nat → (Nat → Int32) × (Nat → Int32)
  | 0 => s
  | i + 1 => if pr_rm nw (pe (b + i)) = 0 then (if (pr_rj nw pe wc c b s i).2 (b + i) ≤ 0 then (pr_rj nw pe wc c b s i).1 else upd (pr_rj nw pe wc c b s i).1 c ((pr_rj nw pe wc c b s i).1 c + 1), upd (pr_rj nw pe wc c b s i).2 (b + i) (wc (b + i))) else pr_rj nw pe wc c b s i
def pr_rl (nw : Int32) (ct pe wc : Nat → Int32) (s : (Nat → Int32) × (Nat → Int32)) : Nat → (Nat → Int32) × (Nat → Int32)
  | 0 => s
  | c + 1 => pr_rj nw pe wc c (c * 8) (pr_rl nw ct pe wc s c) (pr_K ct c)
section PR10S
variable {c b i : Nat} {s : (Nat → Int32) × (Nat → Int32)}
theorem pr_rj0 (h : ¬ pr_rm nw (pe (b + i)) = 0) : pr_rj nw pe wc c b s (i + 1) = pr_rj nw pe wc c b s i := if_neg h
theorem pr_rj1 (h : pr_rm nw (pe (b + i)) = 0) (h2 : (pr_rj nw pe wc c b s i).2 (b + i) ≤ 0) : pr_rj nw pe wc c b s (i + 1) = ((pr_rj nw pe wc c b s i).1, upd (pr_rj nw pe wc c b s i).2 (b + i) (wc (b + i))) := by
  have e : pr_rj nw pe wc c b s (i + 1) = (if (pr_rj nw pe wc c b s i).2 (b + i) ≤ 0 then (pr_rj nw pe wc c b s i).1 else upd (pr_rj nw pe wc c b s i).1 c ((pr_rj nw pe wc c b s i).1 c + 1), upd (pr_rj nw pe wc c b s i).2 (b + i) (wc (b + i))) := if_pos h
  rw [e, if_pos h2]
theorem pr_rj2 (h : pr_rm nw (pe (b + i)) = 0) (h2 : ¬ (pr_rj nw pe wc c b s i).2 (b + i) ≤ 0) : pr_rj nw pe wc c b s (i + 1) = (upd (pr_rj nw pe wc c b s i).1 c ((pr_rj nw pe wc c b s i).1 c + 1), upd (pr_rj nw pe wc c b s i).2 (b + i) (wc (b + i))) := by
  have e : pr_rj nw pe wc c b s (i + 1) = (if (pr_rj nw pe wc c b s i).2 (b + i) ≤ 0 then (pr_rj nw pe wc c b s i).1 else upd (pr_rj nw pe wc c b s i).1 c ((pr_rj nw pe wc c b s i).1 c + 1), upd (pr_rj nw pe wc c b s i).2 (b + i) (wc (b + i))) := if_pos h
  rw [e, if_neg h2]
end PR10S
theorem pr_xrj24 {post : St2 → Prop} {J : Int32 → (Nat → Int32) → (Nat → Int32) → (Nat → Int32) → (Nat → Int32) → (Nat → Int32) → (Nat → Int32) → (Nat → Int32) → (Nat → Int32) → (Nat → Int32) → (Nat → Int32) → Prop} {c k : Nat} {s : (Nat → Int32) × (Nat → Int32)} (hc : c < 4) (hk : k ≤ 8) (hp : ∀ i, i < k → ¬ pe (c * 8 + i) = 0)
    (H : J (nI (c + 1)) po ct sp sb pe wc (pr_rj nw pe wc c (c * 8) s k).2 ex (pr_rj nw pe wc c (c * 8) s k).1 le) :
    ∀ d i, i + d = k → wX_releaseJobs_24 post J (nI c) (nI (c * 8 + k)) hz nw ad (d + 1) (nI (c * 8 + i)) po ct sp sb pe wc (pr_rj nw pe wc c (c * 8) s i).2 ex (pr_rj nw pe wc c (c * 8) s i).1 le := by
  have hcc : (nI c).toNatClampNeg = c := nI_clamp (by omega)
  intro d
  induction d with
  | zero =>
    intro i hi
    have e : i = k := by omega
    subst e
    exact pk_le (c * 8 + i) (c * 8 + i) (fun _ => nm_r (nI_1 c) H) (fun z => absurd z (by omega))
  | succ d ih =>
    intro i hi
    have hin : vp_in (nI (c * 8 + i)) 32 := pr_i32 hc (by omega)
    have hcl : (nI (c * 8 + i)).toNatClampNeg = c * 8 + i := nI_clamp (by omega)
    have W := ih (i + 1) (by omega)
    refine pk_le (c * 8 + k) (c * 8 + i) (fun z => absurd z (by omega)) (fun _ => ⟨hin, ?_⟩)
    rw [hcl]
    refine ⟨hp i (by omega), br_c (fun h => ⟨hin, br_c (fun h2 => ?_) (fun h2 => ⟨pr_i4 hc, pr_i4 hc, ?_⟩)⟩) (fun h => nm_r (e' := nI (c * 8 + (i + 1))) (nI_1 _) ?_)⟩
    · rw [pr_rj1 h h2] at W
      exact ⟨hin, hin, nm_r (e' := upd (pr_rj nw pe wc c (c * 8) s i).2 (c * 8 + i) (wc (c * 8 + i))) (by rw [hcl]) (nm_r (e' := nI (c * 8 + (i + 1))) (nI_1 _) W)⟩
    · rw [pr_rj2 h h2] at W
      exact nm_r (e' := upd (pr_rj nw pe wc c (c * 8) s i).1 c ((pr_rj nw pe wc c (c * 8) s i).1 c + 1)) (by rw [hcc]) ⟨hin, hin, nm_r (e' := upd (pr_rj nw pe wc c (c * 8) s i).2 (c * 8 + i) (wc (c * 8 + i))) (by rw [hcl]) (nm_r (e' := nI (c * 8 + (i + 1))) (nI_1 _) W)⟩
    · rw [pr_rj0 h] at W; exact W
theorem pr_xrl2 {post : St2 → Prop} {s : (Nat → Int32) × (Nat → Int32)} (I : ∀ c, c < 4 → pr_C po ct sp sb pe c)
    (H : post (hz, nw, ad, po, ct, sp, sb, pe, wc, (pr_rl nw ct pe wc s 4).2, ex, (pr_rl nw ct pe wc s 4).1, le)) :
    ∀ d c, c + d = 4 → wX_releaseJobs_2 post hz nw ad (d + 1) (nI c) po ct sp sb pe wc (pr_rl nw ct pe wc s c).2 ex (pr_rl nw ct pe wc s c).1 le := by
  intro d
  induction d with
  | zero =>
    intro c hc
    have e : c = 4 := by omega
    subst e
    exact pk_le 4 4 (fun _ => H) (fun z => absurd z (by omega))
  | succ d ih =>
    intro c hc
    have hc4 : c < 4 := by omega
    have hcl : (nI c).toNatClampNeg = c := nI_clamp (by omega)
    obtain ⟨-, ⟨k, hk, hct, hpe⟩, -⟩ := I c hc4
    have W := ih (c + 1) (by omega)
    rw [show pr_rl nw ct pe wc s (c + 1) = pr_rj nw pe wc c (c * 8) (pr_rl nw ct pe wc s c) k from by rw [← pr_Ke hct (by omega)]; rfl] at W
    have V := pr_xrj24 (post := post) (hz := hz) (ad := ad) hc4 hk (pr_nz hpe) W k 0 (by omega)
    refine pk_le 4 c (fun z => absurd z (by omega)) (fun _ => nm_r (e' := nI (c * 8)) (pr_m8 c) ⟨pr_i4 hc4, nm_r (e' := nI (c * 8 + k)) ?_ ⟨k + 1, V⟩⟩)
    rw [hcl, hct]; exact nI_add _ _
theorem pr_xrl {post : St2 → Prop} (I : ∀ c, c < 4 → pr_C po ct sp sb pe c)
    (H : post (hz, nw, ad, po, ct, sp, sb, pe, wc, (pr_rl nw ct pe wc (mi, re) 4).2, ex, (pr_rl nw ct pe wc (mi, re) 4).1, le)) :
    wpX_releaseJobs post (hz, nw, ad, po, ct, sp, sb, pe, wc, re, ex, mi, le) :=
  ⟨5, pr_xrl2 (s := (mi, re)) I H 4 0 (by omega)⟩
theorem pr_xtail {post : St2 → Prop} (I : ∀ c, c < 4 → pr_C po ct sp sb pe c)
    (H : post (hz, nw + 1, ad, po, ct, sp, sb, pe, wc, (pr_rl (nw + 1) ct pe wc (mi, re) 4).2, ex, (pr_rl (nw + 1) ct pe wc (mi, re) 4).1, pr_fill (pr_rf (nw + 1) sp sb le) le 0 4)) :
    wX_simulateUnit_25 post hz nw ad po ct sp sb pe wc re ex mi le := by
  refine nm_e ?_
  refine pr_xrf ?_
  exact pr_xrl I H
/-! the reference's -/
/-! one unit on both sides -/
/-! the loop of run -/
end PR10

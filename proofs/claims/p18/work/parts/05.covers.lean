section PR05
variable {hz nw ad : Int32} {po ct sp sb pe wc re ex mi le : Nat → Int32}
/-! what covering asks, as yes or no -/
def pr_fD (pe wc : Nat → Int32) (c k p q : Nat) : Nat → Bool := fun t => decide (pr_dm pe wc (nI t) (c * 8) k ≤ nI (pr_sb p q t))
def pr_fT (pe wc : Nat → Int32) (c p q j : Nat) : Nat → Bool := fun t => decide (¬ nI (pr_sb p q t) < pr_rq pe wc (nI t) (c * 8) (j + 1))
def pr_fF (pe wc : Nat → Int32) (c p q : Nat) : Nat → Bool := fun j => pr_any (pr_fT pe wc c p q j) 1 (pr_K pe (c * 8 + j))
def pr_cv (po pe wc : Nat → Int32) (Hn c k p : Nat) : Nat → Bool := fun q => if po c = 1 then pr_all (pr_fF pe wc c p q) 0 k else pr_all (pr_fD pe wc c k p q) 1 Hn
theorem pr_nz {c k : Nat} (h : ∀ i, i < k → ∃ p, 1 ≤ p ∧ p ≤ 64 ∧ pe (c * 8 + i) = nI p) : ∀ i, i < k → ¬ pe (c * 8 + i) = 0 := by
  intro i hi
  obtain ⟨p, h1, h2, e⟩ := h i hi
  rw [e]
  exact nI_ne0 h1 (by omega)
/-! EDF -/
theorem pr_xcd3 {post : Int32 → Prop} {Hn c k p q : Nat} (hH : Hn ≤ 256) (hc : c < 4) (hk : k ≤ 8) (hct : ct c = nI k) (hpe : ∀ i, i < k → ¬ pe (c * 8 + i) = 0) (hp : 1 ≤ p) (hp2 : p ≤ 32) (hq : q ≤ p) :
    ∀ d i, i + d = Hn + 1 → post (pr_b (pr_all (pr_fD pe wc c k p q) i d)) → wX_coversDeadlines_3 post (nI c) (nI p) (nI q) (nI Hn) nw ad po ct sp sb pe wc re ex mi le (d + 1) (nI i) := by
  intro d
  induction d with
  | zero =>
    intro i hi H
    exact pk_lt Hn i (fun _ => H) (fun z => absurd z (by omega))
  | succ d ih =>
    intro i hi H
    refine pk_lt Hn i (fun z => absurd z (by omega)) (fun _ => pr_xdemand hc hk hct hpe (pr_xsup hp hp2 hq (by omega) (br_c (fun z => nm_r (e' := nI (i + 1)) (nI_1 _) (ih (i + 1) (by omega) ?_)) (fun z => ?_))))
    · rw [pr_all_t (decide_eq_true z)] at H; exact H
    · rw [pr_all_f (decide_eq_false z)] at H; exact H
theorem pr_xcd {post : Int32 → Prop} {Hn c k p q : Nat} (hH : Hn ≤ 256) (hc : c < 4) (hk : k ≤ 8) (hct : ct c = nI k) (hpe : ∀ i, i < k → ¬ pe (c * 8 + i) = 0) (hp : 1 ≤ p) (hp2 : p ≤ 32) (hq : q ≤ p)
    (H : post (pr_b (pr_all (pr_fD pe wc c k p q) 1 Hn))) : wpX_coversDeadlines post (nI Hn, nw, ad, po, ct, sp, sb, pe, wc, re, ex, mi, le) (nI c) (nI p) (nI q) :=
  ⟨Hn + 1, pr_xcd3 hH hc hk hct hpe hp hp2 hq Hn 1 (by omega) H⟩
/-! fixed priority -/
theorem pr_xct16 {post : Int32 → Prop} {T c j p q : Nat} (hT : T ≤ 64) (hc : c < 4) (hj : j < 8) (hpe : ∀ i, i < j + 1 → ¬ pe (c * 8 + i) = 0) (hp : 1 ≤ p) (hp2 : p ≤ 32) (hq : q ≤ p) :
    ∀ d i, i + d = T + 1 → post (pr_b (pr_any (pr_fT pe wc c p q j) i d)) → wX_coversTask_16 post (nI c) (nI j) (nI p) (nI q) (nI T) hz nw ad po ct sp sb pe wc re ex mi le (d + 1) (nI i) := by
  intro d
  induction d with
  | zero =>
    intro i hi H
    exact pk_lt T i (fun _ => H) (fun z => absurd z (by omega))
  | succ d ih =>
    intro i hi H
    refine pk_lt T i (fun z => absurd z (by omega)) (fun _ => pr_xrequest hc hj hpe (pr_xsup hp hp2 hq (by omega) (br_c (fun z => nm_r (e' := nI (i + 1)) (nI_1 _) (ih (i + 1) (by omega) ?_)) (fun z => ?_))))
    · rw [pr_any_f (decide_eq_false (fun y => y z))] at H; exact H
    · rw [pr_any_t (decide_eq_true z)] at H; exact H
theorem pr_xct {post : Int32 → Prop} {c k j p q : Nat} (hc : c < 4) (hk : k ≤ 8) (hj : j < k) (hpe : ∀ i, i < k → ∃ p, 1 ≤ p ∧ p ≤ 64 ∧ pe (c * 8 + i) = nI p) (hp : 1 ≤ p) (hp2 : p ≤ 32) (hq : q ≤ p)
    (H : post (pr_b (pr_fF pe wc c p q j))) : wpX_coversTask post (hz, nw, ad, po, ct, sp, sb, pe, wc, re, ex, mi, le) (nI c) (nI j) (nI p) (nI q) := by
  obtain ⟨T, h1, hT, e⟩ := hpe j hj
  have hin : vp_in (nI c * 8 + nI j) 32 := by rw [pr_sl]; exact pr_i32 hc (by omega)
  have hcl : (nI c * 8 + nI j).toNatClampNeg = c * 8 + j := by rw [pr_sl]; exact nI_clamp (by omega)
  have H' : post (pr_b (pr_any (pr_fT pe wc c p q j) 1 T)) := by
    have H2 : post (pr_b (pr_any (pr_fT pe wc c p q j) 1 (pr_K pe (c * 8 + j)))) := H
    rw [pr_Ke e (by omega)] at H2; exact H2
  exact ⟨hin, nm_r (e' := nI T) (by rw [hcl]; exact e) ⟨T + 1, pr_xct16 hT hc (by omega) (fun i hi => pr_nz hpe i (by omega)) hp hp2 hq T 1 (by omega) H'⟩⟩
theorem pr_xcf11 {post : Int32 → Prop} {c k p q : Nat} (hc : c < 4) (hk : k ≤ 8) (hpe : ∀ i, i < k → ∃ p, 1 ≤ p ∧ p ≤ 64 ∧ pe (c * 8 + i) = nI p) (hp : 1 ≤ p) (hp2 : p ≤ 32) (hq : q ≤ p) :
    ∀ d i, i + d = k → post (pr_b (pr_all (pr_fF pe wc c p q) i d)) → wX_coversFixedPriority_11 post (nI c) (nI p) (nI q) (nI k) hz nw ad po ct sp sb pe wc re ex mi le (d + 1) (nI i) := by
  intro d
  induction d with
  | zero =>
    intro i hi H
    exact pk_le k i (fun _ => H) (fun z => absurd z (by omega))
  | succ d ih =>
    intro i hi H
    refine pk_le k i (fun z => absurd z (by omega)) (fun _ => pr_xct hc hk (by omega) hpe hp hp2 hq ?_)
    cases e : pr_fF pe wc c p q i with
    | false =>
      rw [pr_all_f e] at H
      exact br_t rfl H
    | true =>
      rw [pr_all_t e] at H
      exact br_f pr_10 (nm_r (e' := nI (i + 1)) (nI_1 _) (ih (i + 1) (by omega) H))
theorem pr_xcf {post : Int32 → Prop} {c k p q : Nat} (hc : c < 4) (hk : k ≤ 8) (hct : ct c = nI k) (hpe : ∀ i, i < k → ∃ p, 1 ≤ p ∧ p ≤ 64 ∧ pe (c * 8 + i) = nI p) (hp : 1 ≤ p) (hp2 : p ≤ 32) (hq : q ≤ p)
    (H : post (pr_b (pr_all (pr_fF pe wc c p q) 0 k))) : wpX_coversFixedPriority post (hz, nw, ad, po, ct, sp, sb, pe, wc, re, ex, mi, le) (nI c) (nI p) (nI q) :=
  ⟨pr_i4 hc, nm_r (e' := nI k) (by rw [pr_cl (c := c) (by omega)]; exact hct) ⟨k + 1, pr_xcf11 hc hk hpe hp hp2 hq k 0 (by omega) H⟩⟩
theorem pr_sb_le {p q t : Nat} (hq : q ≤ p) : pr_sb p q t ≤ t := by
  unfold pr_sb
  by_cases h : q = 0 ∨ t ≤ p - q
  · rw [if_pos h]; exact Nat.zero_le _
  · rw [if_neg h]
    have h1 : (t - (p - q)) / p * q ≤ (t - (p - q)) / p * p := Nat.mul_le_mul_left _ hq
    have h2 := Nat.div_add_mod' (t - (p - q)) p
    omega
theorem pr_cv0 {Hn c p q : Nat} (hH : Hn ≤ 256) (hq : q ≤ p) : pr_cv po pe wc Hn c 0 p q = true := by
  show (if po c = 1 then pr_all (pr_fF pe wc c p q) 0 0 else pr_all (pr_fD pe wc c 0 p q) 1 Hn) = true
  by_cases h : po c = 1
  · rw [if_pos h]; rfl
  · rw [if_neg h]
    have A : ∀ d i, i + d ≤ 1000 → pr_all (pr_fD pe wc c 0 p q) i d = true := by
      intro d
      induction d with
      | zero => intro i _; rfl
      | succ d ih =>
        intro i hi
        have h3 : pr_sb p q i ≤ i := pr_sb_le hq
        have h4 : pr_fD pe wc c 0 p q i = true := decide_eq_true (nI_pos' (n := pr_sb p q i) (by omega))
        rw [pr_all_t h4]
        exact ih (i + 1) (by omega)
    exact A Hn 1 (by omega)
/-! the least budget -/
theorem pr_xlb2 {post : Int32 → Prop} {Hn c k p : Nat} (hH : Hn ≤ 256) (hc : c < 4) (hk : k ≤ 8) (hpo : po c = 0 ∨ po c = 1) (hct : ct c = nI k) (hpe : ∀ i, i < k → ∃ p, 1 ≤ p ∧ p ≤ 64 ∧ pe (c * 8 + i) = nI p) (hp : 1 ≤ p) (hp2 : p ≤ 32) :
    ∀ d i, i + d = p + 1 → post (pr_ans (pr_ls (pr_cv po pe wc Hn c k p) i d)) → wX_leastBudget_2 post (nI c) (nI p) (nI Hn) nw ad po ct sp sb pe wc re ex mi le (d + 1) (nI i) := by
  have hcl : (nI c).toNatClampNeg = c := nI_clamp (by omega)
  intro d
  induction d with
  | zero =>
    intro i hi H
    exact pk_lt p i (fun _ => H) (fun z => absurd z (by omega))
  | succ d ih =>
    intro i hi H
    have W : wX_leastBudget_34 post (wX_leastBudget_2 post (nI c) (nI p) (nI Hn) nw ad po ct sp sb pe wc re ex mi le (d + 1)) (nI c) (nI p) (nI i) (pr_b (pr_cv po pe wc Hn c k p i)) (nI Hn) nw ad po ct sp sb pe wc re ex mi le := by
      cases e : pr_cv po pe wc Hn c k p i with
      | false =>
        rw [pr_ls_f e] at H
        exact br_t rfl (nm_r (e' := nI (i + 1)) (nI_1 _) (ih (i + 1) (by omega) H))
      | true =>
        rw [pr_ls_t e] at H
        exact br_f pr_10 H
    refine pk_lt p i (fun z => absurd z (by omega)) (fun _ => ⟨pr_i4 hc, ?_⟩)
    rw [hcl]
    cases hpo with
    | inl h =>
      have e : pr_cv po pe wc Hn c k p i = pr_all (pr_fD pe wc c k p i) 1 Hn := if_neg (by rw [h]; decide)
      rw [e] at W
      exact br_f (by rw [h]; decide) (pr_xcd hH hc hk hct (pr_nz hpe) hp hp2 (by omega) W)
    | inr h =>
      have e : pr_cv po pe wc Hn c k p i = pr_all (pr_fF pe wc c p i) 0 k := if_pos h
      rw [e] at W
      exact br_t h (pr_xcf hc hk hct hpe hp hp2 (by omega) W)
theorem pr_xlb {post : Int32 → Prop} {Hn c k p : Nat} (hH : Hn ≤ 256) (hc : c < 4) (hk : k ≤ 8) (hpo : po c = 0 ∨ po c = 1) (hct : ct c = nI k) (hpe : ∀ i, i < k → ∃ p, 1 ≤ p ∧ p ≤ 64 ∧ pe (c * 8 + i) = nI p) (hp : 1 ≤ p) (hp2 : p ≤ 32)
    (H : post (pr_ans (pr_ls (pr_cv po pe wc Hn c k p) 0 (p + 1)))) : wpX_leastBudget post (nI Hn, nw, ad, po, ct, sp, sb, pe, wc, re, ex, mi, le) (nI c) (nI p) :=
  ⟨p + 1 + 1, pr_xlb2 hH hc hk hpo hct hpe hp hp2 (p + 1) 0 (by omega) H⟩
end PR05

section PR08
/-! the sum of the bandwidths, two ways -/
def pr_pd (P : Nat → Nat) : Nat → Nat
  | 0 => 1
  | c + 1 => if P c = 0 then pr_pd P c else pr_pd P c * P c
def pr_us (P Q : Nat → Nat) : Nat → Nat
  | 0 => 0
  | c + 1 => if P c = 0 then pr_us P Q c else pr_us P Q c * P c + Q c * pr_pd P c
def pr_sm (P Q : Nat → Nat) (W : Nat) : Nat → Nat
  | 0 => 0
  | c + 1 => if P c = 0 then pr_sm P Q W c else pr_sm P Q W c + Q c * (W / P c)
theorem pr_pd0 {P : Nat → Nat} {c : Nat} (h : P c = 0) : pr_pd P (c + 1) = pr_pd P c := if_pos h
theorem pr_pd1 {P : Nat → Nat} {c : Nat} (h : ¬ P c = 0) : pr_pd P (c + 1) = pr_pd P c * P c := if_neg h
theorem pr_us0 {P Q : Nat → Nat} {c : Nat} (h : P c = 0) : pr_us P Q (c + 1) = pr_us P Q c := if_pos h
theorem pr_us1 {P Q : Nat → Nat} {c : Nat} (h : ¬ P c = 0) : pr_us P Q (c + 1) = pr_us P Q c * P c + Q c * pr_pd P c := if_neg h
theorem pr_sm0 {P Q : Nat → Nat} {W c : Nat} (h : P c = 0) : pr_sm P Q W (c + 1) = pr_sm P Q W c := if_pos h
theorem pr_sm1 {P Q : Nat → Nat} {W c : Nat} (h : ¬ P c = 0) : pr_sm P Q W (c + 1) = pr_sm P Q W c + Q c * (W / P c) := if_neg h
theorem pr_pdv {P : Nat → Nat} : ∀ n i, i < n → ¬ P i = 0 → P i ∣ pr_pd P n := by
  intro n
  induction n with
  | zero => intro i hi; exact absurd hi (by omega)
  | succ n ih =>
    intro i hi h
    by_cases z : P n = 0
    · rw [pr_pd0 z]
      by_cases e : i = n
      · subst e; exact absurd z h
      · exact ih i (by omega) h
    · rw [pr_pd1 z]
      by_cases e : i = n
      · subst e; exact Nat.dvd_mul_left _ _
      · exact Nat.dvd_trans (ih i (by omega) h) (Nat.dvd_mul_right _ _)
theorem pr_sms {P Q : Nat → Nat} {W k : Nat} : ∀ n, (∀ i, i < n → ¬ P i = 0 → P i ∣ W) → pr_sm P Q (W * k) n = pr_sm P Q W n * k := by
  intro n
  induction n with
  | zero => intro _; exact (Nat.zero_mul k).symm
  | succ n ih =>
    intro h
    have i1 := ih (fun i hi => h i (by omega))
    by_cases z : P n = 0
    · rw [pr_sm0 z, pr_sm0 z]; exact i1
    · obtain ⟨m, hm⟩ := h n (by omega) z
      have hpos : 0 < P n := by omega
      have d1 : W / P n = m := by rw [hm]; exact Nat.mul_div_cancel_left m hpos
      have d2 : W * k / P n = m * k := by rw [hm, Nat.mul_assoc]; exact Nat.mul_div_cancel_left _ hpos
      rw [pr_sm1 z, pr_sm1 z, i1, d1, d2, Nat.add_mul, Nat.mul_assoc]
theorem pr_two {P Q : Nat → Nat} : ∀ n, pr_sm P Q (pr_pd P n) n = pr_us P Q n := by
  intro n
  induction n with
  | zero => rfl
  | succ n ih =>
    by_cases z : P n = 0
    · rw [pr_pd0 z, pr_sm0 z, pr_us0 z]; exact ih
    · rw [pr_pd1 z, pr_sm1 z, pr_us1 z, pr_sms n (pr_pdv n), ih, Nat.mul_div_cancel _ (by omega)]
theorem pr_pdb {P : Nat → Nat} (hP : ∀ c, c < 4 → P c ≤ 32) : ∀ n, n ≤ 4 → pr_pd P n ≤ 32 ^ n := by
  intro n
  induction n with
  | zero => intro _; exact Nat.le_refl _
  | succ n ih =>
    intro h
    have i1 := ih (by omega)
    rw [Nat.pow_succ]
    by_cases z : P n = 0
    · rw [pr_pd0 z]; omega
    · rw [pr_pd1 z]; exact Nat.mul_le_mul i1 (hP n (by omega))
theorem pr_pdB {P : Nat → Nat} (hP : ∀ c, c < 4 → P c ≤ 32) {n : Nat} (h : n ≤ 4) : pr_pd P n ≤ 1048576 :=
  Nat.le_trans (pr_pdb hP n h) (Nat.le_trans (Nat.pow_le_pow_right (by decide) h) (by decide))
theorem pr_smb {P Q : Nat → Nat} {W : Nat} (hQ : ∀ c, c < 4 → Q c ≤ 32) : ∀ n, n ≤ 4 → pr_sm P Q W n ≤ n * (32 * W) := by
  intro n
  induction n with
  | zero => intro _; exact Nat.zero_le _
  | succ n ih =>
    intro h
    have i1 := ih (by omega)
    rw [Nat.add_mul, Nat.one_mul]
    by_cases z : P n = 0
    · rw [pr_sm0 z]; omega
    · rw [pr_sm1 z]
      have i2 : Q n * (W / P n) ≤ 32 * W := Nat.mul_le_mul (hQ n (by omega)) (Nat.div_le_self _ _)
      omega
theorem pr_usb {P Q : Nat → Nat} (hP : ∀ c, c < 4 → P c ≤ 32) (hQ : ∀ c, c < 4 → Q c ≤ 32) {n : Nat} (h : n ≤ 4) : pr_us P Q n ≤ 134217728 := by
  have a := pr_smb (P := P) (W := pr_pd P n) hQ n h
  rw [pr_two] at a
  have b := pr_pdB hP h
  have d : n * (32 * pr_pd P n) ≤ 4 * (32 * 1048576) := Nat.mul_le_mul h (Nat.mul_le_mul (Nat.le_refl _) b)
  omega
variable {hz nw ad : Int32} {po ct sp sb pe wc re ex mi le : Nat → Int32}
/-! X: every task is served -/
def pr_fS (ct sp : Nat → Int32) : Nat → Bool := fun c => decide (ct c ≤ 0) || !decide (sp c = 0)
theorem pr_xserved2 {post : Int32 → Prop} :
    ∀ d c, c + d = 4 → post (pr_b (pr_all (pr_fS ct sp) c d)) → wX_everyTaskIsServed_2 post hz nw ad po ct sp sb pe wc re ex mi le (d + 1) (nI c) := by
  intro d
  induction d with
  | zero =>
    intro c hc H
    exact pk_le 4 c (fun _ => H) (fun z => absurd z (by omega))
  | succ d ih =>
    intro c hc H
    have hc4 : c < 4 := by omega
    refine pk_le 4 c (fun z => absurd z (by omega)) (fun _ => ⟨pr_i4 hc4, ?_⟩)
    rw [pr_cl (c := c) (by omega)]
    refine br_c (fun z => nm_r (e' := nI (c + 1)) (nI_1 _) (ih (c + 1) (by omega) ?_)) (fun z => pr_xhas hc4 (fun y => br_t rfl ?_) (fun y => br_f pr_10 (nm_r (e' := nI (c + 1)) (nI_1 _) (ih (c + 1) (by omega) ?_))))
    · have e : pr_fS ct sp c = true := by
        show (decide (ct c ≤ 0) || !decide (sp c = 0)) = true
        rw [decide_eq_true z]; rfl
      rw [pr_all_t e] at H; exact H
    · have e : pr_fS ct sp c = false := by
        show (decide (ct c ≤ 0) || !decide (sp c = 0)) = false
        rw [decide_eq_false z, decide_eq_true y]; rfl
      rw [pr_all_f e] at H; exact H
    · have e : pr_fS ct sp c = true := by
        show (decide (ct c ≤ 0) || !decide (sp c = 0)) = true
        rw [decide_eq_false z, decide_eq_false y]; rfl
      rw [pr_all_t e] at H; exact H
theorem pr_xserved {post : Int32 → Prop} (H : post (pr_b (pr_all (pr_fS ct sp) 0 4))) : wpX_everyTaskIsServed post (hz, nw, ad, po, ct, sp, sb, pe, wc, re, ex, mi, le) :=
  ⟨5, pr_xserved2 4 0 (by omega) H⟩
/-! X: the bandwidth fits -/
theorem pr_xbw6 {post : Int32 → Prop} {P Q : Nat → Nat} (hP : ∀ c, c < 4 → P c ≤ 32) (hQ : ∀ c, c < 4 → Q c ≤ 32) (hsp : ∀ c, c < 4 → sp c = nI (P c)) (hsb : ∀ c, c < 4 → sb c = nI (Q c))
    (H : post (pr_b (decide (pr_us P Q 4 ≤ pr_pd P 4)))) :
    ∀ d c, c + d = 4 → wX_bandwidthFits_6 post hz nw ad po ct sp sb pe wc re ex mi le (d + 1) (nI (pr_us P Q c)) (nI (pr_pd P c)) (nI c) := by
  intro d
  induction d with
  | zero =>
    intro c hc
    have e : c = 4 := by omega
    subst e
    have b1 := pr_usb hP hQ (Nat.le_refl 4)
    have b2 := pr_pdB hP (Nat.le_refl 4)
    refine pk_le 4 4 (fun _ => pk_lt (pr_pd P 4) (pr_us P Q 4) (fun z => ?_) (fun z => ?_)) (fun z => absurd z (by omega))
    · rw [decide_eq_false (by omega)] at H; exact H
    · rw [decide_eq_true z] at H; exact H
  | succ d ih =>
    intro c hc
    have hc4 : c < 4 := by omega
    have hcl : (nI c).toNatClampNeg = c := nI_clamp (by omega)
    have W := ih (c + 1) (by omega)
    refine pk_le 4 c (fun z => absurd z (by omega)) (fun _ => pr_xhas hc4 (fun y => br_t rfl (nm_r (e' := nI (c + 1)) (nI_1 _) ?_)) (fun y => br_f pr_10 ⟨pr_i4 hc4, pr_i4 hc4, nm_r (e' := nI (pr_us P Q (c + 1))) ?_ ⟨pr_i4 hc4, nm_r (e' := nI (pr_pd P (c + 1))) ?_ (nm_r (e' := nI (c + 1)) (nI_1 _) W)⟩⟩))
    · have z : P c = 0 := by
        rw [hsp c hc4] at y
        exact (nI_eq (b := 0) (by have := hP c hc4; omega) (by omega)).mp y
      rw [pr_us0 z, pr_pd0 z] at W
      exact W
    · have z : ¬ P c = 0 := by
        intro z; apply y; rw [hsp c hc4, z]; rfl
      rw [hcl, hsp c hc4, hsb c hc4, pk_mul, pk_mul, nI_add, pr_us1 z]
    · have z : ¬ P c = 0 := by
        intro z; apply y; rw [hsp c hc4, z]; rfl
      rw [hcl, hsp c hc4, pk_mul, pr_pd1 z]
theorem pr_xbw {post : Int32 → Prop} {P Q : Nat → Nat} (hP : ∀ c, c < 4 → P c ≤ 32) (hQ : ∀ c, c < 4 → Q c ≤ 32) (hsp : ∀ c, c < 4 → sp c = nI (P c)) (hsb : ∀ c, c < 4 → sb c = nI (Q c))
    (H : post (pr_b (decide (pr_us P Q 4 ≤ pr_pd P 4)))) : wpX_bandwidthFits post (hz, nw, ad, po, ct, sp, sb, pe, wc, re, ex, mi, le) :=
  ⟨5, pr_xbw6 hP hQ hsp hsb H 4 0 (by omega)⟩
/-! X: letting in -/
theorem pr_xad20 {post : Int32 → St2 → Prop} (b : Bool) (I : ∀ c, c < 4 → pr_C po ct sp sb pe c)
    (H : post (pr_b b) (hz, 0, pr_b b, po, ct, sp, sb, pe, wc, pr_rsR wc ct re 4, pr_rsR (fun _ => 0) ct ex 4, pr_fill (fun _ => 0) mi 0 4, pr_fill (pr_rsL sp sb) le 0 4)) :
    wX_admit_20 post (pr_b b) hz nw ad po ct sp sb pe wc re ex mi le := by
  refine ⟨pr_bn b, pr_bf b, ?_⟩
  refine pr_xreset I ?_
  exact ⟨pr_bn b, H⟩
theorem pr_xadmit {post : Int32 → St2 → Prop} {P Q : Nat → Nat} (hP : ∀ c, c < 4 → P c ≤ 32) (hQ : ∀ c, c < 4 → Q c ≤ 32) (hsp : ∀ c, c < 4 → sp c = nI (P c)) (hsb : ∀ c, c < 4 → sb c = nI (Q c)) (I : ∀ c, c < 4 → pr_C po ct sp sb pe c)
    (H : ∀ b : Bool, b = (pr_all (pr_fS ct sp) 0 4 && decide (pr_us P Q 4 ≤ pr_pd P 4)) → post (pr_b b) (hz, 0, pr_b b, po, ct, sp, sb, pe, wc, pr_rsR wc ct re 4, pr_rsR (fun _ => 0) ct ex 4, pr_fill (fun _ => 0) mi 0 4, pr_fill (pr_rsL sp sb) le 0 4)) :
    wpX_admit post (hz, nw, ad, po, ct, sp, sb, pe, wc, re, ex, mi, le) := by
  unfold wpX_admit
  refine pr_xserved ?_
  cases e : pr_all (pr_fS ct sp) 0 4 with
  | false =>
    rw [e] at H
    exact br_t rfl (pr_xad20 false I (H false rfl))
  | true =>
    refine br_f pr_10 (pr_xbw hP hQ hsp hsb ?_)
    cases e2 : decide (pr_us P Q 4 ≤ pr_pd P 4) with
    | false =>
      rw [e, e2] at H
      exact br_t rfl (pr_xad20 false I (H false rfl))
    | true =>
      rw [e, e2] at H
      exact br_f pr_10 (pr_xad20 true I (H true rfl))
/-! Y: letting in -/
end PR08

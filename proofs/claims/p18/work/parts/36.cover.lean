section PS36
variable {po pe wc : Nat → Int32}
/-! searches read back -/
theorem ps_allT {f : Nat → Bool} : ∀ d i, pr_all f i d = true → ∀ t, i ≤ t → t < i + d → f t = true := by
  intro d
  induction d with
  | zero => intro i _ t h1 h2; omega
  | succ d ih =>
    intro i h t h1 h2
    cases e : f i with
    | false => rw [pr_all_f e] at h; cases h
    | true =>
      rw [pr_all_t e] at h
      by_cases z : t = i
      · rw [z]; exact e
      · exact ih (i + 1) h t (by omega) (by omega)
theorem ps_anyT {f : Nat → Bool} : ∀ d i, pr_any f i d = true → ∃ t, i ≤ t ∧ t < i + d ∧ f t = true := by
  intro d
  induction d with
  | zero => intro i h; cases h
  | succ d ih =>
    intro i h
    cases e : f i with
    | true => exact ⟨i, by omega, by omega, e⟩
    | false =>
      rw [pr_any_f e] at h
      obtain ⟨t, h1, h2, h3⟩ := ih (i + 1) h
      exact ⟨t, by omega, by omega, h3⟩
theorem ps_lsS {f : Nat → Bool} {q : Nat} : ∀ d i, pr_ls f i d = some q → f q = true ∧ ∀ x, i ≤ x → x < q → f x = false := by
  intro d
  induction d with
  | zero => intro i h; cases h
  | succ d ih =>
    intro i h
    cases e : f i with
    | true =>
      rw [pr_ls_t e] at h
      cases h
      exact ⟨e, fun x h1 h2 => absurd h2 (by omega)⟩
    | false =>
      rw [pr_ls_f e] at h
      obtain ⟨h1, h2⟩ := ih (i + 1) h
      refine ⟨h1, fun x h3 h4 => ?_⟩
      by_cases z : x = i
      · rw [z]; exact e
      · exact h2 x (by omega) h4
theorem ps_lsN {f : Nat → Bool} : ∀ d i, pr_ls f i d = none → ∀ x, i ≤ x → x < i + d → f x = false := by
  intro d
  induction d with
  | zero => intro i _ x h1 h2; omega
  | succ d ih =>
    intro i h x h1 h2
    cases e : f i with
    | true => rw [pr_ls_t e] at h; cases h
    | false =>
      rw [pr_ls_f e] at h
      by_cases z : x = i
      · rw [z]; exact e
      · exact ih (i + 1) h x (by omega) (by omega)
/-! demand and request in naturals -/
theorem ps_dm {T C : Nat → Nat} {b t : Nat} (ht : t ≤ 1000) : ∀ k, (∀ i, i < k → 1 ≤ T i ∧ T i ≤ 64 ∧ pe (b + i) = nI (T i) ∧ wc (b + i) = nI (C i)) → pr_dm pe wc (nI t) b k = nI (ps_sum (fun i => t / T i * C i) k) := by
  intro k
  induction k with
  | zero => intro _; rfl
  | succ k ih =>
    intro h
    obtain ⟨h1, h2, h3, h4⟩ := h k (by omega)
    show pr_dm pe wc (nI t) b k + nI t / pe (b + k) * wc (b + k) = _
    rw [ih (fun i hi => h i (by omega)), h3, h4, pk_div (by omega) h1 (by omega), pk_mul, nI_add]
    rfl
theorem ps_rq {T C : Nat → Nat} {b t : Nat} (ht : t ≤ 1000) : ∀ k, (∀ i, i < k → 1 ≤ T i ∧ T i ≤ 64 ∧ pe (b + i) = nI (T i) ∧ wc (b + i) = nI (C i)) → pr_rq pe wc (nI t) b k = nI (ps_sum (fun i => (t + T i - 1) / T i * C i) k) := by
  intro k
  induction k with
  | zero => intro _; rfl
  | succ k ih =>
    intro h
    obtain ⟨h1, h2, h3, h4⟩ := h k (by omega)
    have e : nI t + nI (T k) - 1 = nI (t + T k - 1) := by
      obtain ⟨m, hm⟩ : ∃ m, T k = m + 1 := ⟨T k - 1, by omega⟩
      rw [nI_add, hm]
      exact nI_pred (t + m)
    show pr_rq pe wc (nI t) b k + (nI t + pe (b + k) - 1) / pe (b + k) * wc (b + k) = _
    rw [ih (fun i hi => h i (by omega)), h3, h4, e, pk_div (by omega) h1 (by omega), pk_mul, nI_add]
    rfl
theorem ps_sumB {f : Nat → Nat} {M : Nat} : ∀ k, (∀ i, i < k → f i ≤ M) → ps_sum f k ≤ k * M := by
  intro k
  induction k with
  | zero => intro _; exact Nat.zero_le _
  | succ k ih =>
    intro h
    have a := ih (fun i hi => h i (by omega))
    have b := h k (by omega)
    rw [ps_sumS, Nat.succ_mul]
    omega
theorem ps_mB {a d M C : Nat} (ha : a ≤ M) (hC : C ≤ 64) : a / d * C ≤ M * 64 :=
  Nat.mul_le_mul (Nat.le_trans (Nat.div_le_self _ _) ha) hC
/-! covering read back -/
theorem ps_cvE {T C : Nat → Nat} {Hn c k p q : Nat} (hH : Hn ≤ 256) (hk : k ≤ 8) (hq : q ≤ p) (h : ∀ i, i < k → 1 ≤ T i ∧ T i ≤ 64 ∧ C i ≤ 64 ∧ pe (c * 8 + i) = nI (T i) ∧ wc (c * 8 + i) = nI (C i))
    (hp : po c = 0) (hc : pr_cv po pe wc Hn c k p q = true) : ps_covE T C k p q Hn := by
  have e : pr_cv po pe wc Hn c k p q = pr_all (pr_fD pe wc c k p q) 1 Hn := if_neg (by rw [hp]; decide)
  rw [e] at hc
  intro t h1 h2
  have a : pr_dm pe wc (nI t) (c * 8) k ≤ nI (pr_sb p q t) := of_decide_eq_true (ps_allT _ _ hc t h1 (by omega))
  rw [ps_dm (T := T) (C := C) (by omega) k (fun i hi => ⟨(h i hi).1, (h i hi).2.1, (h i hi).2.2.2⟩)] at a
  have b : ps_sum (fun i => t / T i * C i) k ≤ k * (256 * 64) := ps_sumB k (fun i hi => ps_mB (by omega) (h i hi).2.2.1)
  have d : k * (256 * 64) ≤ 8 * (256 * 64) := Nat.mul_le_mul_right _ hk
  have s : pr_sb p q t ≤ t := pr_sb_le hq
  exact (nI_leI (by omega) (by omega)).mp a
theorem ps_cvF {T C : Nat → Nat} {Hn c k p q : Nat} (hk : k ≤ 8) (hq : q ≤ p) (h : ∀ i, i < k → 1 ≤ T i ∧ T i ≤ 64 ∧ C i ≤ 64 ∧ pe (c * 8 + i) = nI (T i) ∧ wc (c * 8 + i) = nI (C i))
    (hp : po c = 1) (hc : pr_cv po pe wc Hn c k p q = true) : ps_covF T C k p q := by
  have e : pr_cv po pe wc Hn c k p q = pr_all (pr_fF pe wc c p q) 0 k := if_pos hp
  rw [e] at hc
  intro j hj
  obtain ⟨j1, j2, j3, j4, j5⟩ := h j hj
  have a : pr_any (pr_fT pe wc c p q j) 1 (pr_K pe (c * 8 + j)) = true := ps_allT _ _ hc j (Nat.zero_le _) (by omega)
  rw [pr_Ke j4 (by omega)] at a
  obtain ⟨t, t1, t2, t3⟩ := ps_anyT _ _ a
  have g : ¬ nI (pr_sb p q t) < pr_rq pe wc (nI t) (c * 8) (j + 1) := of_decide_eq_true t3
  rw [ps_rq (T := T) (C := C) (by omega) (j + 1) (fun i hi => ⟨(h i (by omega)).1, (h i (by omega)).2.1, (h i (by omega)).2.2.2⟩)] at g
  have b : ps_sum (fun i => (t + T i - 1) / T i * C i) (j + 1) ≤ (j + 1) * (1000 * 64) := ps_sumB (j + 1) (fun i hi => ps_mB (by have := (h i (by omega)).2.1; omega) (h i (by omega)).2.2.1)
  have d : (j + 1) * (1000 * 64) ≤ 8 * (1000 * 64) := Nat.mul_le_mul_right _ (by omega)
  have s : pr_sb p q t ≤ t := pr_sb_le hq
  rw [nI_ltI (by omega) (by omega)] at g
  exact ⟨t, t1, by omega, by omega⟩
end PS36
section PS37
variable {hz ad : Int32} {po ct sp sb pe wc mi : Nat → Int32} {P Q K : Nat → Nat} {T C : Nat → Nat → Nat} {H : Nat}
/-! the program's unit and its run -/
theorem ps_xunit {n : Nat} {re ex le : Nat → Int32} {post : St2 → Prop} (S : ps_St H po ct sp sb pe wc P Q K T C) (D : ps_Dy H n po re le P Q K T C) (hH : H ≤ 256) (hn : n + 1 ≤ H)
    (Hp : ∀ re' ex' le', ps_Dy H (n + 1) po re' le' P Q K T C → post (hz, nI (n + 1), ad, po, ct, sp, sb, pe, wc, re', ex', mi, le')) :
    wpX_simulateUnit post (hz, nI n, ad, po, ct, sp, sb, pe, wc, re, ex, mi, le) := by
  obtain ⟨hs, hb, l, r, A⟩ := D
  have AA := A.2
  have I := ps_StC S
  unfold wpX_simulateUnit
  refine pr_xch ?_
  cases ps_ch (n := n) (P := P) (l := l) (sp := sp) (le := le) (by omega) 4 (Nat.le_refl _) (fun c hc => ⟨by have := (S c hc).2.2.2.1.1; omega, by have := (AA c hc).1; omega, (S c hc).2.2.2.1.2.2.1, (AA c hc).2.1⟩) with
  | inl h =>
    obtain ⟨e, D1⟩ := ps_tail (mi := mi) S hH hn hs hb (ps_none S hb A h.2)
    rw [h.1]
    refine br_t rfl (pr_xtail I ?_)
    rw [nI_1, e]
    exact Hp _ _ _ D1
  | inr h =>
    obtain ⟨j, j1, j2, j3, j4, j5, j6⟩ := h
    have hcl : (nI j).toNatClampNeg = j := nI_clamp (by omega)
    obtain ⟨l1, r1, A1⟩ := ps_some S hH hn hb A j1 j4 j5 j6
    obtain ⟨e, D1⟩ := ps_tail (mi := mi) S hH hn hs hb A1
    obtain ⟨g1, ⟨g2, g3⟩, g4, -, -⟩ := S j j1
    rw [j2]
    refine br_f (ps_ne1 (by omega)) ⟨pr_i4 j1, pr_i4 j1, nm_r (e' := upd le j (le j - 1)) (by rw [hcl]) ?_⟩
    refine pr_xserve j1 g2 g1 g3 (fun i hi => ?_) ?_
    · rw [(g4 i hi).2.2.2.1]
      exact nI_ne0 (g4 i hi).1 (by have := (g4 i hi).2.1; omega)
    refine pr_xtail I ?_
    rw [nI_1, e]
    exact Hp _ _ _ D1
theorem ps_xrun {m : Nat} {post : Int32 → St2 → Prop} (S : ps_St H po ct sp sb pe wc P Q K T C) (hH : H ≤ 256) (hm : m < 2 ^ 31) : ∀ d i n, i + d = m → n + d ≤ H → ∀ re ex le : Nat → Int32, ps_Dy H n po re le P Q K T C →
    (∀ re' ex' le', ps_Dy H (n + d) po re' le' P Q K T C → post (nI m) (hz, nI (n + d), ad, po, ct, sp, sb, pe, wc, re', ex', mi, le')) → wX_run_38 post (nI m) (d + 1) (nI i) hz (nI n) ad po ct sp sb pe wc re ex mi le := by
  intro d
  induction d with
  | zero =>
    intro i n hi hn re ex le D Hp
    exact pk_le m i (fun _ => Hp _ _ _ D) (fun z => absurd z (by omega))
  | succ d ih =>
    intro i n hi hn re ex le D Hp
    refine pk_le m i (fun z => absurd z (by omega)) (fun _ => ps_xunit S D hH (by omega) (fun re' ex' le' D' => ?_))
    refine nm_r (e' := nI (i + 1)) (nI_1 _) (ih (i + 1) (n + 1) (by omega) (by omega) re' ex' le' D' ?_)
    rw [show n + 1 + d = n + (d + 1) from by omega]
    exact Hp
end PS37

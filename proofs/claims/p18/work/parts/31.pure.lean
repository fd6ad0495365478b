section PS31
/-! division -/
theorem ps_div1 {n P : Nat} (h : (n + 1) % P = 0) : (n + 1) / P = n / P + 1 ∧ (n / P + 1) * P = n + 1 := by
  have hP : 0 < P := by
    cases P with
    | zero => rw [Nat.mod_zero] at h; omega
    | succ p => omega
  have e := Nat.div_add_mod (n + 1) P
  rw [h, Nat.add_zero, Nat.mul_comm] at e
  cases q : (n + 1) / P with
  | zero => rw [q, Nat.zero_mul] at e; omega
  | succ m =>
    rw [q] at e
    have e2 : n / P = m := by
      apply Nat.div_eq_of_lt_le
      · rw [Nat.succ_mul] at e; omega
      · omega
    rw [e2]
    exact ⟨rfl, e⟩
theorem ps_div0 {n P : Nat} (h : ¬ (n + 1) % P = 0) : (n + 1) / P = n / P := by
  cases P with
  | zero => rw [Nat.div_zero, Nat.div_zero]
  | succ p =>
    have hP : 0 < p + 1 := by omega
    have lo := Nat.div_mul_le_self n (p + 1)
    have hi : n < (n / (p + 1) + 1) * (p + 1) := by
      have e := Nat.div_add_mod n (p + 1)
      have m := Nat.mod_lt n hP
      rw [Nat.mul_comm] at e
      rw [Nat.succ_mul]
      omega
    apply Nat.div_eq_of_lt_le
    · omega
    · by_cases z : n + 1 = (n / (p + 1) + 1) * (p + 1)
      · exact absurd (by rw [z]; exact Nat.mul_mod_left _ _) h
      · omega
theorem ps_up {n P : Nat} (hP : 0 < P) : n < (n / P + 1) * P := by
  have e := Nat.div_add_mod n P
  have m := Nat.mod_lt n hP
  rw [Nat.mul_comm] at e
  rw [Nat.succ_mul]
  omega
/-! sums -/
def ps_sum (f : Nat → Nat) : Nat → Nat
  | 0 => 0
  | n + 1 => ps_sum f n + f n
theorem ps_sumS {f : Nat → Nat} {n : Nat} : ps_sum f (n + 1) = ps_sum f n + f n := rfl
theorem ps_sum_le {f g : Nat → Nat} : ∀ n, (∀ i, i < n → f i ≤ g i) → ps_sum f n ≤ ps_sum g n := by
  intro n
  induction n with
  | zero => intro _; exact Nat.le_refl _
  | succ n ih =>
    intro h
    have a := ih (fun i hi => h i (by omega))
    have b := h n (by omega)
    rw [ps_sumS, ps_sumS]
    omega
theorem ps_sum_one {f : Nat → Nat} : ∀ n i, i < n → f i ≤ ps_sum f n := by
  intro n
  induction n with
  | zero => intro i hi; omega
  | succ n ih =>
    intro i hi
    rw [ps_sumS]
    by_cases z : i = n
    · subst z; omega
    · have := ih i (by omega)
      omega
theorem ps_sum_dec {f g : Nat → Nat} {j : Nat} : ∀ n, j < n → (∀ i, i < n → i ≠ j → g i ≤ f i) → g j + 1 ≤ f j → ps_sum g n + 1 ≤ ps_sum f n := by
  intro n
  induction n with
  | zero => intro hj; omega
  | succ n ih =>
    intro hj h hx
    rw [ps_sumS, ps_sumS]
    by_cases z : j = n
    · subst z
      have := ps_sum_le (f := g) (g := f) j (fun i hi => h i (by omega) (by omega))
      omega
    · have a := ih (by omega) (fun i hi => h i (by omega)) hx
      have b := h n (by omega) (fun y => z y.symm)
      omega
theorem ps_sum_zero {f : Nat → Nat} {n : Nat} (h : ps_sum f n = 0) : ∀ i, i < n → f i = 0 := by
  intro i hi
  have := ps_sum_one (f := f) n i hi
  omega
/-! what is due by d: period P, amount Q, rest l, at time n -/
def ps_w (P Q l n d : Nat) : Nat := if n / P < d / P then l + (d / P - (n / P + 1)) * Q else 0
theorem ps_w0 {P Q l n d : Nat} (h : ¬ n / P < d / P) : ps_w P Q l n d = 0 := if_neg h
theorem ps_w1 {P Q l n d : Nat} (h : n / P < d / P) : ps_w P Q l n d = l + (d / P - (n / P + 1)) * Q := if_pos h
theorem ps_pos {P n d : Nat} (h : n / P < d / P) : 0 < P := by
  cases P with
  | zero => rw [Nat.div_zero, Nat.div_zero] at h; omega
  | succ p => omega
theorem ps_wle {P Q l l1 n d : Nat} (h : l1 ≤ l) : ps_w P Q l1 n d ≤ ps_w P Q l n d := by
  by_cases z : n / P < d / P
  · rw [ps_w1 z, ps_w1 z]; omega
  · rw [ps_w0 z, ps_w0 z]; omega
theorem ps_widle {P Q n d : Nat} (hd : n + 1 ≤ d) : ps_w P Q 0 n d ≤ (d - n - 1) / P * Q := by
  by_cases z : n / P < d / P
  · rw [ps_w1 z, Nat.zero_add]
    have hP := ps_pos z
    apply Nat.mul_le_mul_right
    rw [Nat.le_div_iff_mul_le hP, Nat.sub_mul]
    have a := Nat.div_mul_le_self d P
    have b := ps_up (n := n) hP
    omega
  · rw [ps_w0 z]; exact Nat.zero_le _
theorem ps_wnext {P Q l l2 n d : Nat} (hd : n + 1 ≤ d) (h1 : (n + 1) % P = 0 → l2 = Q) (h2 : ¬ (n + 1) % P = 0 → l2 = l) : ps_w P Q l2 (n + 1) d ≤ ps_w P Q l n d := by
  by_cases h : (n + 1) % P = 0
  · have e := (ps_div1 h).1
    rw [h1 h]
    by_cases z : (n + 1) / P < d / P
    · rw [ps_w1 z, ps_w1 (by omega)]
      rw [e] at z
      obtain ⟨m, hm⟩ : ∃ m, d / P = n / P + 1 + 1 + m := ⟨d / P - (n / P + 1 + 1), by omega⟩
      rw [e, hm, show n / P + 1 + 1 + m - (n / P + 1 + 1) = m from by omega, show n / P + 1 + 1 + m - (n / P + 1) = m + 1 from by omega, Nat.succ_mul]
      omega
    · rw [ps_w0 z]; exact Nat.zero_le _
  · rw [h2 h]
    unfold ps_w
    rw [ps_div0 h]
    exact Nat.le_refl _
theorem ps_wstart {P Q d : Nat} : ps_w P Q Q 0 d ≤ d / P * Q := by
  by_cases z : 0 / P < d / P
  · rw [ps_w1 z]
    rw [Nat.zero_div] at z ⊢
    obtain ⟨m, hm⟩ : ∃ m, d / P = m + 1 := ⟨d / P - 1, by omega⟩
    rw [hm, show m + 1 - (0 + 1) = m from by omega, Nat.succ_mul]
    omega
  · rw [ps_w0 z]; exact Nat.zero_le _
/-! one unit given to the earliest deadline -/
def ps_pick (N : Nat) (P l l1 : Nat → Nat) (n : Nat) : Prop :=
  ((∀ c, c < N → 0 < P c → l c = 0) ∧ l1 = l) ∨
  ∃ j, j < N ∧ 0 < P j ∧ l1 j + 1 = l j ∧ (∀ c, c ≠ j → l1 c = l c) ∧ ∀ c, c < N → 0 < P c → 0 < l c → (n / P j + 1) * P j ≤ (n / P c + 1) * P c
theorem ps_edf {N n d : Nat} {P Q l l1 : Nat → Nat} (hd : n + 1 ≤ d) (h : ps_pick N P l l1 n) :
    ps_sum (fun c => ps_w (P c) (Q c) (l1 c) n d) N + 1 ≤ ps_sum (fun c => ps_w (P c) (Q c) (l c) n d) N ∨ ps_sum (fun c => ps_w (P c) (Q c) (l1 c) n d) N ≤ ps_sum (fun c => (d - n - 1) / P c * Q c) N := by
  cases h with
  | inl h =>
    obtain ⟨h, rfl⟩ := h
    refine Or.inr (ps_sum_le _ (fun c hc => ?_))
    show ps_w (P c) (Q c) (l1 c) n d ≤ (d - n - 1) / P c * Q c
    by_cases z : n / P c < d / P c
    · rw [h c hc (ps_pos z)]; exact ps_widle hd
    · rw [ps_w0 z]; exact Nat.zero_le _
  | inr h =>
    obtain ⟨j, hj, hP, hl, ho, hm⟩ := h
    by_cases z : n / P j < d / P j
    · refine Or.inl (ps_sum_dec (j := j) _ hj (fun c _ hne => ?_) ?_)
      · show ps_w (P c) (Q c) (l1 c) n d ≤ ps_w (P c) (Q c) (l c) n d
        rw [ho c hne]; exact Nat.le_refl _
      · show ps_w (P j) (Q j) (l1 j) n d + 1 ≤ ps_w (P j) (Q j) (l j) n d
        rw [ps_w1 z, ps_w1 z]; omega
    · refine Or.inr (ps_sum_le _ (fun c hc => ?_))
      show ps_w (P c) (Q c) (l1 c) n d ≤ (d - n - 1) / P c * Q c
      by_cases y : n / P c < d / P c
      · have hcj : c ≠ j := fun e => z (e ▸ y)
        rw [ho c hcj]
        by_cases x : l c = 0
        · rw [x]; exact ps_widle hd
        · have a := hm c hc (ps_pos y) (by omega)
          have b : (n / P c + 1) * P c ≤ d := Nat.le_trans (Nat.mul_le_mul_right _ y) (Nat.div_mul_le_self d (P c))
          have w : n / P j + 1 ≤ d / P j := by
            rw [Nat.le_div_iff_mul_le hP]
            omega
          exact absurd w z
      · rw [ps_w0 y]; exact Nat.zero_le _
/-! the servers together -/
def ps_S (P Q l : Nat → Nat) (n m : Nat) : Prop := ∀ d, m ≤ d → ps_sum (fun c => ps_w (P c) (Q c) (l c) n d) 4 ≤ d - m
def ps_BW (P Q : Nat → Nat) : Prop := ∀ d, ps_sum (fun c => d / P c * Q c) 4 ≤ d
theorem ps_S0 {P Q : Nat → Nat} (h : ps_BW P Q) : ps_S P Q Q 0 0 := by
  intro d _
  exact Nat.le_trans (ps_sum_le _ (fun c _ => ps_wstart)) (h d)
theorem ps_S1 {P Q l l1 : Nat → Nat} {n : Nat} (hb : ps_BW P Q) (h : ps_S P Q l n n) (hp : ps_pick 4 P l l1 n) : ps_S P Q l1 n (n + 1) := by
  intro d hd
  have a := h d (by omega)
  cases ps_edf (Q := Q) hd hp with
  | inl z => omega
  | inr z =>
    have b := hb (d - n - 1)
    omega
theorem ps_S2 {P Q l1 l2 : Nat → Nat} {n : Nat} (h : ps_S P Q l1 n (n + 1)) (h1 : ∀ c, c < 4 → (n + 1) % P c = 0 → l2 c = Q c) (h2 : ∀ c, c < 4 → ¬ (n + 1) % P c = 0 → l2 c = l1 c) : ps_S P Q l2 (n + 1) (n + 1) := by
  intro d hd
  exact Nat.le_trans (ps_sum_le _ (fun c hc => ps_wnext hd (h1 c hc) (h2 c hc))) (h d hd)
/-- what is left fits into the period -/
theorem ps_fit {P Q l : Nat → Nat} {n m c : Nat} (h : ps_S P Q l n m) (hc : c < 4) (hP : 0 < P c) (hm : m ≤ (n / P c + 1) * P c) : l c ≤ (n / P c + 1) * P c - m := by
  have a := h _ hm
  have b := ps_sum_one (f := fun c' => ps_w (P c') (Q c') (l c') n ((n / P c + 1) * P c)) 4 c hc
  have e : (n / P c + 1) * P c / P c = n / P c + 1 := Nat.mul_div_cancel _ hP
  have w : ps_w (P c) (Q c) (l c) n ((n / P c + 1) * P c) = l c + ((n / P c + 1) - (n / P c + 1)) * Q c := by
    rw [ps_w1 (by omega), e]
  have b' : ps_w (P c) (Q c) (l c) n ((n / P c + 1) * P c) ≤ ps_sum (fun c' => ps_w (P c') (Q c') (l c') n ((n / P c + 1) * P c)) 4 := b
  rw [w, Nat.sub_self, Nat.zero_mul] at b'
  omega
end PS31

section PS32
/-! the least supply over x units that begin with a period, its budget given last -/
def ps_U (P Q x : Nat) : Nat := x / P * Q + (x % P - (P - Q))
theorem ps_U0 {P Q : Nat} : ps_U P Q 0 = 0 := by
  unfold ps_U
  rw [Nat.zero_div, Nat.zero_mod, Nat.zero_mul]
  omega
theorem ps_Ustep {P Q x : Nat} (hP : 0 < P) (hQ : Q ≤ P) : ps_U P Q x ≤ ps_U P Q (x + 1) ∧ ps_U P Q (x + 1) ≤ ps_U P Q x + 1 := by
  unfold ps_U
  have m := Nat.mod_lt x hP
  have e1 := Nat.div_add_mod x P
  have e2 := Nat.div_add_mod (x + 1) P
  by_cases h : (x + 1) % P = 0
  · have e := (ps_div1 h).1
    rw [e] at e2 ⊢
    rw [h] at e2 ⊢
    rw [Nat.mul_add, Nat.mul_one] at e2
    rw [Nat.succ_mul]
    omega
  · have e := ps_div0 h
    rw [e] at e2 ⊢
    omega
theorem ps_Umono {P Q x : Nat} (hP : 0 < P) (hQ : Q ≤ P) : ∀ y, ps_U P Q x ≤ ps_U P Q (x + y) ∧ ps_U P Q (x + y) ≤ ps_U P Q x + y := by
  intro y
  induction y with
  | zero => exact ⟨Nat.le_refl _, Nat.le_refl _⟩
  | succ y ih =>
    have s := ps_Ustep (x := x + y) hP hQ
    have e : x + (y + 1) = x + y + 1 := rfl
    rw [e]
    omega
theorem ps_Uadd {P Q x : Nat} (hP : 0 < P) : ps_U P Q (x + P) = Q + ps_U P Q x := by
  unfold ps_U
  rw [Nat.add_div_right _ hP, Nat.add_mod_right, Nat.succ_mul]
  omega
theorem ps_sbU {P Q t : Nat} (hP : 0 < P) (hQ : Q ≤ P) : pr_sb P Q t = ps_U P Q (t - (P - Q)) := by
  unfold pr_sb
  by_cases h : Q = 0 ∨ t ≤ P - Q
  · rw [if_pos h]
    cases h with
    | inl h =>
      unfold ps_U
      subst h
      have m := Nat.mod_lt (t - (P - 0)) hP
      rw [Nat.mul_zero]
      omega
    | inr h => rw [show t - (P - Q) = 0 from by omega, ps_U0]
  · rw [if_neg h]; rfl
/-! the least supply up to d, in period k with l left -/
def ps_L (P Q k l d : Nat) : Nat := if d ≤ (k + 1) * P then l - ((k + 1) * P - d) else l + ps_U P Q (d - (k + 1) * P)
theorem ps_Ldec {P Q k l d : Nat} : ps_L P Q k (l + 1) d ≤ ps_L P Q k l d + 1 := by
  unfold ps_L
  by_cases h : d ≤ (k + 1) * P
  · rw [if_pos h, if_pos h]; omega
  · rw [if_neg h, if_neg h]; omega
theorem ps_Lend {P Q k l d : Nat} (hd : d ≤ (k + 1) * P) (hl : l ≤ (k + 1) * P - d) : ps_L P Q k l d = 0 := by
  unfold ps_L
  rw [if_pos hd]
  omega
theorem ps_Lfill {P Q k d : Nat} (hP : 0 < P) (hQ : Q ≤ P) (hd : (k + 1) * P ≤ d) : ps_L P Q k 0 d ≤ ps_L P Q (k + 1) Q d := by
  unfold ps_L
  have e : (k + 1 + 1) * P = (k + 1) * P + P := Nat.succ_mul _ _
  rw [e]
  generalize (k + 1) * P = s at hd
  by_cases h : d ≤ s
  · rw [if_pos h]; omega
  · rw [if_neg h]
    by_cases h2 : d ≤ s + P
    · rw [if_pos h2]
      by_cases h3 : d = s + P
      · have e3 : d - s = 0 + P := by omega
        rw [e3, ps_Uadd hP, ps_U0]
        omega
      · unfold ps_U
        rw [Nat.div_eq_of_lt (show d - s < P by omega), Nat.mod_eq_of_lt (show d - s < P by omega)]
        omega
    · rw [if_neg h2]
      have e3 : d - s = (d - (s + P)) + P := by omega
      rw [e3, ps_Uadd hP]
      omega
theorem ps_Lsb {P Q k l s t : Nat} (hP : 0 < P) (hQ : Q ≤ P) (h1 : k * P ≤ s) (h2 : s ≤ (k + 1) * P) (ha : Q ≤ l + (s - k * P)) : pr_sb P Q t ≤ ps_L P Q k l (s + t) := by
  rw [ps_sbU hP hQ]
  unfold ps_L
  have e : (k + 1) * P = k * P + P := Nat.succ_mul _ _
  rw [e] at h2 ⊢
  generalize k * P = z at h1 h2 ha
  by_cases h : s + t ≤ z + P
  · rw [if_pos h]
    have u := (ps_Umono (Q := Q) (x := 0) hP hQ (t - (P - Q))).2
    rw [ps_U0, Nat.zero_add] at u
    omega
  · rw [if_neg h]
    by_cases y : t - (P - Q) ≤ s + t - (z + P)
    · obtain ⟨w, hw⟩ : ∃ w, s + t - (z + P) = t - (P - Q) + w := ⟨s + t - (z + P) - (t - (P - Q)), by omega⟩
      have u := (ps_Umono (Q := Q) (x := t - (P - Q)) hP hQ w).1
      rw [hw]
      omega
    · obtain ⟨w, hw⟩ : ∃ w, t - (P - Q) = s + t - (z + P) + w := ⟨t - (P - Q) - (s + t - (z + P)), by omega⟩
      have u := (ps_Umono (Q := Q) (x := s + t - (z + P)) hP hQ w).2
      rw [hw]
      omega
/-! one server's step: left l, after the unit l1, after the refill l2 -/
theorem ps_Lnext {P Q l1 l2 n d : Nat} (hP : 0 < P) (hQ : Q ≤ P) (hd : n + 1 ≤ d) (hf : l1 ≤ (n / P + 1) * P - (n + 1)) (h1 : (n + 1) % P = 0 → l2 = Q) (h2 : ¬ (n + 1) % P = 0 → l2 = l1) :
    ps_L P Q (n / P) l1 d ≤ ps_L P Q ((n + 1) / P) l2 d := by
  by_cases h : (n + 1) % P = 0
  · have e := ps_div1 h
    rw [h1 h, e.1]
    rw [e.2, Nat.sub_self] at hf
    rw [show l1 = 0 from by omega]
    exact ps_Lfill hP hQ (by rw [e.2]; exact hd)
  · rw [h2 h, ps_div0 h]
    exact Nat.le_refl _
def ps_age (P Q l n : Nat) : Prop := Q ≤ l + (n - n / P * P)
theorem ps_age1 {P Q l l1 n : Nat} (h : ps_age P Q l n) (hl : l ≤ l1 + 1) : Q ≤ l1 + (n + 1 - n / P * P) := by
  have a := Nat.div_mul_le_self n P
  unfold ps_age at h
  omega
theorem ps_age2 {P Q l1 l2 n : Nat} (h : Q ≤ l1 + (n + 1 - n / P * P)) (h1 : (n + 1) % P = 0 → l2 = Q) (h2 : ¬ (n + 1) % P = 0 → l2 = l1) : ps_age P Q l2 (n + 1) := by
  unfold ps_age
  by_cases z : (n + 1) % P = 0
  · rw [h1 z]; omega
  · rw [h2 z, ps_div0 z]; exact h
end PS32
section PS33
/-! a component by earliest deadlines: N tasks of periods T, wcets C, rests r -/
def ps_D (T C r : Nat → Nat) (N n d : Nat) : Nat := ps_sum (fun i => ps_w (T i) (C i) (r i) n d) N
def ps_covE (T C : Nat → Nat) (N P Q H : Nat) : Prop := ∀ t, 1 ≤ t → t ≤ H → ps_sum (fun i => t / T i * C i) N ≤ pr_sb P Q t
def ps_E (T C r : Nat → Nat) (N P Q l n m H : Nat) : Prop := ∀ d, m ≤ d → d ≤ H → ps_D T C r N n d ≤ ps_L P Q (n / P) l d
theorem ps_E0 {T C : Nat → Nat} {N P Q H : Nat} (hP : 0 < P) (hQ : Q ≤ P) (hc : ps_covE T C N P Q H) : ps_E T C C N P Q Q 0 0 H := by
  intro d _ hd
  have a : ps_D T C C N 0 d ≤ ps_sum (fun i => d / T i * C i) N := ps_sum_le _ (fun c _ => ps_wstart)
  have s := ps_Lsb (P := P) (Q := Q) (k := 0) (l := Q) (s := 0) (t := d) hP hQ (by omega) (by omega) (by omega)
  rw [Nat.zero_add] at s
  rw [Nat.zero_div]
  by_cases z : d = 0
  · subst z
    have b : ps_sum (fun i => 0 / T i * C i) N ≤ ps_sum (fun _ => 0) N := ps_sum_le _ (fun i _ => by
      show 0 / T i * C i ≤ 0
      rw [Nat.zero_div, Nat.zero_mul]
      exact Nat.le_refl _)
    have c : ∀ M, ps_sum (fun _ => 0) M = 0 := by
      intro M
      induction M with
      | zero => rfl
      | succ M ih => rw [ps_sumS, ih]
    have c' := c N
    omega
  · have b := hc d (by omega) hd
    omega
/-- the component isn't given the unit -/
theorem ps_E1n {T C r : Nat → Nat} {N P Q l n H : Nat} (h : ps_E T C r N P Q l n n H) : ps_E T C r N P Q l n (n + 1) H := fun d hd hH => h d (by omega) hH
/-- it is given the unit -/
theorem ps_E1 {T C r r1 : Nat → Nat} {N P Q l1 n H : Nat} (hP : 0 < P) (hQ : Q ≤ P) (hc : ps_covE T C N P Q H) (h : ps_E T C r N P Q (l1 + 1) n n H) (ha : ps_age P Q (l1 + 1) n) (hp : ps_pick N T r r1 n) : ps_E T C r1 N P Q l1 n (n + 1) H := by
  intro d hd hH
  have a := h d (by omega) hH
  have b := ps_Ldec (P := P) (Q := Q) (k := n / P) (l := l1) (d := d)
  unfold ps_D at a ⊢
  cases ps_edf (Q := C) hd hp with
  | inl z => omega
  | inr z =>
    have u := Nat.div_mul_le_self n P
    have v := ps_up (n := n) hP
    have s := ps_Lsb (P := P) (Q := Q) (k := n / P) (l := l1) (s := n + 1) (t := d - n - 1) hP hQ (by omega) (by omega) (ps_age1 ha (Nat.le_refl _))
    rw [show n + 1 + (d - n - 1) = d from by omega] at s
    by_cases y : d - n - 1 = 0
    · rw [y] at z
      have w : ps_sum (fun i => 0 / T i * C i) N ≤ ps_sum (fun i => ps_w (T i) (C i) (r1 i) n n) N := ps_sum_le _ (fun i _ => by
        show 0 / T i * C i ≤ _
        rw [Nat.zero_div, Nat.zero_mul]
        exact Nat.zero_le _)
      have w2 : ∀ M, ps_sum (fun i => ps_w (T i) (C i) (r1 i) n n) M = 0 := by
        intro M
        induction M with
        | zero => rfl
        | succ M ih =>
          rw [ps_sumS, ih, Nat.zero_add]
          exact ps_w0 (Nat.lt_irrefl _)
      have w3 := w2 N
      omega
    · have k := hc (d - n - 1) (by omega) (by omega)
      omega
theorem ps_E2 {T C r1 r2 : Nat → Nat} {N P Q l1 l2 n H : Nat} (hP : 0 < P) (hQ : Q ≤ P) (h : ps_E T C r1 N P Q l1 n (n + 1) H) (hf : l1 ≤ (n / P + 1) * P - (n + 1))
    (h1 : (n + 1) % P = 0 → l2 = Q) (h2 : ¬ (n + 1) % P = 0 → l2 = l1) (k1 : ∀ i, i < N → (n + 1) % T i = 0 → r2 i = C i) (k2 : ∀ i, i < N → ¬ (n + 1) % T i = 0 → r2 i = r1 i) :
    ps_E T C r2 N P Q l2 (n + 1) (n + 1) H := by
  intro d hd hH
  have a : ps_D T C r2 N (n + 1) d ≤ ps_D T C r1 N n d := ps_sum_le _ (fun i hi => ps_wnext hd (k1 i hi) (k2 i hi))
  exact Nat.le_trans a (Nat.le_trans (h d hd hH) (ps_Lnext hP hQ hd hf h1 h2))
theorem ps_Em {T C r1 : Nat → Nat} {N P Q l1 n H i : Nat} (hP : 0 < P) (h : ps_E T C r1 N P Q l1 n (n + 1) H) (hf : l1 ≤ (n / P + 1) * P - (n + 1)) (hH : n + 1 ≤ H) (hi : i < N) (hm : (n + 1) % T i = 0) : r1 i = 0 := by
  have a := h (n + 1) (Nat.le_refl _) hH
  rw [ps_Lend (ps_up hP) hf] at a
  have b : ps_w (T i) (C i) (r1 i) n (n + 1) ≤ ps_D T C r1 N n (n + 1) := ps_sum_one (f := fun i => ps_w (T i) (C i) (r1 i) n (n + 1)) N i hi
  rw [ps_w1 (by rw [(ps_div1 hm).1]; omega)] at b
  omega
/-! a component by fixed priorities -/
def ps_covF (T C : Nat → Nat) (N P Q : Nat) : Prop := ∀ j, j < N → ∃ t, 1 ≤ t ∧ t ≤ T j ∧ ps_sum (fun i => (t + T i - 1) / T i * C i) (j + 1) ≤ pr_sb P Q t
def ps_F1 (T C r : Nat → Nat) (P Q l n m j : Nat) : Prop := ps_sum r (j + 1) = 0 ∨ ∃ d, m < d ∧ d ≤ n + T j ∧ (0 < r j → d ≤ (n / T j + 1) * T j) ∧ ps_sum (fun i => r i + ((d - 1) / T i - n / T i) * C i) (j + 1) ≤ ps_L P Q (n / P) l d
def ps_F (T C r : Nat → Nat) (N P Q l n m : Nat) : Prop := ∀ j, j < N → ps_F1 T C r P Q l n m j
def ps_first (N : Nat) (r r1 : Nat → Nat) : Prop :=
  ((∀ i, i < N → r i = 0) ∧ r1 = r) ∨ ∃ j, j < N ∧ r1 j + 1 = r j ∧ (∀ i, i ≠ j → r1 i = r i) ∧ ∀ i, i < j → r i = 0
theorem ps_split {a b T : Nat} (hT : 0 < T) : (a + b) / T - a / T ≤ (b + T) / T := by
  have e := Nat.div_add_mod a T
  have m := Nat.mod_lt a hT
  have h : (a + b) / T ≤ (b + T + a / T * T) / T := by
    apply Nat.div_le_div_right
    rw [Nat.mul_comm (a / T) T]
    omega
  rw [Nat.add_mul_div_right _ _ hT] at h
  exact Nat.sub_le_iff_le_add.mpr h
/-- a new busy stretch: nothing is left over but what is released at n -/
theorem ps_Fnew {T C r : Nat → Nat} {N P Q l n j : Nat} (hT : ∀ i, i < N → 0 < T i) (hP : 0 < P) (hQ : Q ≤ P) (hc : ps_covF T C N P Q) (ha : ps_age P Q l n) (hj : j < N) (hr : ∀ i, i ≤ j → (n % T i = 0 ∧ r i = C i) ∨ r i = 0) : ps_F1 T C r P Q l n n j := by
  obtain ⟨t, t1, t2, hs⟩ := hc j hj
  have u := Nat.div_mul_le_self n P
  have v := ps_up (n := n) hP
  have s := ps_Lsb (P := P) (Q := Q) (k := n / P) (l := l) (s := n) (t := t) hP hQ u (by omega) ha
  refine Or.inr ⟨n + t, by omega, by omega, fun h => ?_, Nat.le_trans (ps_sum_le _ (fun i hi => ?_)) (Nat.le_trans hs s)⟩
  · cases hr j (Nat.le_refl _) with
    | inl z =>
      have e := Nat.div_add_mod n (T j)
      rw [z.1, Nat.add_zero, Nat.mul_comm] at e
      rw [Nat.succ_mul, e]
      omega
    | inr z => omega
  · show r i + ((n + t - 1) / T i - n / T i) * C i ≤ (t + T i - 1) / T i * C i
    have hTi := hT i (by omega)
    have e1 : n + t - 1 = n + (t - 1) := by omega
    have e2 : t + T i - 1 = t - 1 + T i := by omega
    rw [e1, e2]
    cases hr i (by omega) with
    | inl z =>
      have e := Nat.div_add_mod n (T i)
      rw [z.1, Nat.add_zero] at e
      have e3 : (n + (t - 1)) / T i = (t - 1) / T i + n / T i := by
        have e4 : n + (t - 1) = (t - 1) + T i * (n / T i) := by omega
        rw [e4, Nat.add_mul_div_left _ _ hTi]
      rw [z.2, e3, Nat.add_div_right _ hTi, Nat.succ_mul, Nat.add_sub_cancel]
      omega
    | inr z =>
      rw [z, Nat.zero_add]
      exact Nat.mul_le_mul_right _ (ps_split hTi)
theorem ps_Flow {T C r r1 : Nat → Nat} {P Q l1 n j : Nat} (hP : 0 < P) (hf : l1 ≤ (n / P + 1) * P - (n + 1)) (h0 : ps_sum r (j + 1) = 0 → ps_sum r1 (j + 1) = 0)
    (hr : r1 j ≤ r j) (h : ps_sum r (j + 1) = 0 ∨ ∃ d, n < d ∧ d ≤ n + T j ∧ (0 < r j → d ≤ (n / T j + 1) * T j) ∧ ps_sum (fun i => r1 i + ((d - 1) / T i - n / T i) * C i) (j + 1) ≤ ps_L P Q (n / P) l1 d) : ps_F1 T C r1 P Q l1 n (n + 1) j := by
  cases h with
  | inl h => exact Or.inl (h0 h)
  | inr h =>
    obtain ⟨d, d1, d2, d3, d4⟩ := h
    by_cases z : d = n + 1
    · subst z
      rw [ps_Lend (ps_up hP) hf] at d4
      have a : ps_sum r1 (j + 1) ≤ ps_sum (fun i => r1 i + ((n + 1 - 1) / T i - n / T i) * C i) (j + 1) := ps_sum_le _ (fun i _ => Nat.le_add_right _ _)
      exact Or.inl (by omega)
    · exact Or.inr ⟨d, by omega, d2, fun y => d3 (by omega), d4⟩
theorem ps_Fn {T C r : Nat → Nat} {N P Q l n : Nat} (hP : 0 < P) (hf : l ≤ (n / P + 1) * P - (n + 1)) (h : ps_F T C r N P Q l n n) : ps_F T C r N P Q l n (n + 1) :=
  fun j hj => ps_Flow hP hf (fun z => z) (Nat.le_refl _) (h j hj)
theorem ps_Fs {T C r r1 : Nat → Nat} {N P Q l1 n : Nat} (hP : 0 < P) (hf : l1 ≤ (n / P + 1) * P - (n + 1)) (h : ps_F T C r N P Q (l1 + 1) n n) (hp : ps_first N r r1) : ps_F T C r1 N P Q l1 n (n + 1) := by
  intro j hj
  cases hp with
  | inl z =>
    obtain ⟨z, rfl⟩ := z
    have s : ps_sum r1 (j + 1) = 0 := by
      have a : ∀ M, M ≤ j + 1 → ps_sum r1 M = 0 := by
        intro M
        induction M with
        | zero => intro _; rfl
        | succ M ih => intro hM; rw [ps_sumS, ih (by omega), z M (by omega)]
      exact a _ (Nat.le_refl _)
    exact Or.inl s
  | inr z =>
    obtain ⟨i, hi, e, ho, hz⟩ := z
    have hle : ∀ m, r1 m ≤ r m := by
      intro m
      by_cases y : m = i
      · subst y; omega
      · rw [ho m y]; exact Nat.le_refl _
    refine ps_Flow (r := r) hP hf (fun y => ?_) (hle j) ?_
    · have := ps_sum_le (f := r1) (g := r) (j + 1) (fun m _ => hle m)
      omega
    · cases h j hj with
      | inl y => exact Or.inl y
      | inr y =>
        by_cases x : ps_sum r (j + 1) = 0
        · exact Or.inl x
        · obtain ⟨d, d1, d2, d3, d4⟩ := y
          refine Or.inr ⟨d, d1, d2, d3, ?_⟩
          have hij : i < j + 1 := by
            by_cases w : i < j + 1
            · exact w
            · have a : ∀ M, M ≤ j + 1 → ps_sum r M = 0 := by
                intro M
                induction M with
                | zero => intro _; rfl
                | succ M ih => intro hM; rw [ps_sumS, ih (by omega), hz M (by omega)]
              exact absurd (a _ (Nat.le_refl _)) x
          have b := ps_Ldec (P := P) (Q := Q) (k := n / P) (l := l1) (d := d)
          have c := ps_sum_dec (f := fun m => r m + ((d - 1) / T m - n / T m) * C m) (g := fun m => r1 m + ((d - 1) / T m - n / T m) * C m) (j := i) (j + 1) hij (fun m _ hm => by
            show r1 m + _ ≤ r m + _
            rw [ho m hm]
            exact Nat.le_refl _) (by
            show r1 i + _ + 1 ≤ r i + _
            omega)
          omega
theorem ps_Fm {T C r1 : Nat → Nat} {N P Q l1 n i : Nat} (h : ps_F T C r1 N P Q l1 n (n + 1)) (hi : i < N) (hm : (n + 1) % T i = 0) : r1 i = 0 := by
  cases h i hi with
  | inl z => exact ps_sum_zero z i (by omega)
  | inr z =>
    obtain ⟨d, d1, d2, d3, d4⟩ := z
    rw [(ps_div1 hm).2] at d3
    by_cases y : r1 i = 0
    · exact y
    · have := d3 (by omega)
      omega
theorem ps_F2 {T C r1 r2 : Nat → Nat} {N P Q l1 l2 n : Nat} (hT : ∀ i, i < N → 0 < T i) (hP : 0 < P) (hQ : Q ≤ P) (hc : ps_covF T C N P Q) (h : ps_F T C r1 N P Q l1 n (n + 1)) (hf : l1 ≤ (n / P + 1) * P - (n + 1)) (ha : ps_age P Q l2 (n + 1))
    (h1 : (n + 1) % P = 0 → l2 = Q) (h2 : ¬ (n + 1) % P = 0 → l2 = l1) (k1 : ∀ i, i < N → (n + 1) % T i = 0 → r2 i = C i) (k2 : ∀ i, i < N → ¬ (n + 1) % T i = 0 → r2 i = r1 i) :
    ps_F T C r2 N P Q l2 (n + 1) (n + 1) := by
  intro j hj
  cases h j hj with
  | inl z =>
    refine ps_Fnew hT hP hQ hc ha hj (fun i hi => ?_)
    by_cases y : (n + 1) % T i = 0
    · exact Or.inl ⟨y, k1 i (by omega) y⟩
    · exact Or.inr (by rw [k2 i (by omega) y]; exact ps_sum_zero z i (by omega))
  | inr z =>
    obtain ⟨d, d1, d2, d3, d4⟩ := z
    refine Or.inr ⟨d, d1, by omega, fun y => ?_, Nat.le_trans (ps_sum_le _ (fun i hi => ?_)) (Nat.le_trans d4 (ps_Lnext hP hQ (by omega) hf h1 h2))⟩
    · by_cases x : (n + 1) % T j = 0
      · have e := ps_div1 x
        rw [e.1, Nat.succ_mul, e.2]
        omega
      · rw [ps_div0 x]
        rw [k2 j hj x] at y
        exact d3 y
    · show r2 i + ((d - 1) / T i - (n + 1) / T i) * C i ≤ r1 i + ((d - 1) / T i - n / T i) * C i
      by_cases x : (n + 1) % T i = 0
      · have e := ps_div1 x
        have g : (n + 1) / T i ≤ (d - 1) / T i := Nat.div_le_div_right (by omega)
        rw [k1 i (by omega) x]
        rw [e.1] at g ⊢
        obtain ⟨m, hm⟩ : ∃ m, (d - 1) / T i = n / T i + 1 + m := ⟨(d - 1) / T i - (n / T i + 1), by omega⟩
        rw [hm, show n / T i + 1 + m - (n / T i + 1) = m from by omega, show n / T i + 1 + m - n / T i = m + 1 from by omega, Nat.succ_mul]
        omega
      · rw [k2 i (by omega) x, ps_div0 x]
        exact Nat.le_refl _
end PS33

section PS34
variable {sp sb le pe wc re ct mi : Nat → Int32}
/-! the bandwidth -/
theorem ps_pdpos {P : Nat → Nat} : ∀ n, 0 < pr_pd P n := by
  intro n
  induction n with
  | zero => exact Nat.one_pos
  | succ n ih =>
    by_cases z : P n = 0
    · rw [pr_pd0 z]; exact ih
    · rw [pr_pd1 z]; exact Nat.mul_pos ih (by omega)
theorem ps_bwn {P Q : Nat → Nat} {d : Nat} : ∀ n, ps_sum (fun c => d / P c * Q c) n * pr_pd P n ≤ d * pr_us P Q n := by
  intro n
  induction n with
  | zero => exact Nat.le_of_eq (by rw [show ps_sum (fun c => d / P c * Q c) 0 = 0 from rfl, Nat.zero_mul]; exact (Nat.mul_zero d).symm)
  | succ n ih =>
    rw [ps_sumS]
    by_cases z : P n = 0
    · rw [pr_pd0 z, pr_us0 z, z, Nat.div_zero, Nat.zero_mul, Nat.add_zero]; exact ih
    · rw [pr_pd1 z, pr_us1 z, Nat.add_mul, Nat.mul_add]
      apply Nat.add_le_add
      · have a := Nat.mul_le_mul_right (P n) ih
        rw [Nat.mul_assoc, Nat.mul_assoc] at a
        exact a
      · have a : d / P n * P n ≤ d := Nat.div_mul_le_self d (P n)
        have b := Nat.mul_le_mul_right (Q n * pr_pd P n) a
        have e : d / P n * Q n * (pr_pd P n * P n) = d / P n * P n * (Q n * pr_pd P n) := by
          rw [Nat.mul_comm (pr_pd P n) (P n), Nat.mul_assoc, Nat.mul_assoc, ← Nat.mul_assoc (Q n) (P n), Nat.mul_comm (Q n) (P n), Nat.mul_assoc (P n)]
        rw [e]
        exact b
theorem ps_bw {P Q : Nat → Nat} (h : pr_us P Q 4 ≤ pr_pd P 4) : ps_BW P Q := by
  intro d
  have a := ps_bwn (P := P) (Q := Q) (d := d) 4
  have b := Nat.le_trans a (Nat.mul_le_mul_left d h)
  exact Nat.le_of_mul_le_mul_right b (ps_pdpos 4)
/-! deadlines and remainders in naturals -/
theorem ps_dlN {n p : Nat} (hn : n ≤ 1000) (hp : 0 < p) (hp2 : p ≤ 64) : pr_dl (nI n) (nI p) = nI ((n / p + 1) * p) := by
  unfold pr_dl
  rw [pk_div (by omega) hp (by omega), nI_1, pk_mul]
theorem ps_dlB {n p : Nat} : (n / p + 1) * p ≤ n + p := by
  have a := Nat.div_mul_le_self n p
  rw [Nat.succ_mul]
  omega
theorem ps_rmN {n p : Nat} (hn : n ≤ 1000) (hp : 0 < p) (hp2 : p ≤ 64) : pr_rm (nI n) (nI p) = 0 ↔ n % p = 0 := by
  have e : pr_rm (nI n) (nI p) = nI (n % p) := pk_rem (by omega) hp (by omega)
  have m := Nat.mod_lt n hp
  rw [e]
  exact nI_eq (b := 0) (by omega) (by omega)
theorem ps_le0 {r : Nat} (hr : r < 2 ^ 31) : nI r ≤ 0 ↔ r = 0 := by
  have h : nI r ≤ nI 0 ↔ r ≤ 0 := nI_leI hr (by omega)
  constructor
  · intro z
    have := h.mp z
    omega
  · intro z
    exact h.mpr (by omega)
theorem ps_ne1 {j : Nat} (hj : j < 2 ^ 31) : ¬ nI j = -1 := by
  intro e
  have h5 := nI_pos (n := j) hj
  rw [e] at h5
  exact h5 (by decide)
/-! the component chosen -/
theorem ps_ch {n : Nat} {P l : Nat → Nat} (hn : n ≤ 1000) : ∀ N, N ≤ 4 → (∀ c, c < N → P c ≤ 64 ∧ l c < 2 ^ 31 ∧ sp c = nI (P c) ∧ le c = nI (l c)) →
    ((pr_ch (nI n) sp le N).1 = -1 ∧ ∀ c, c < N → 0 < P c → l c = 0) ∨
    ∃ j, j < N ∧ (pr_ch (nI n) sp le N).1 = nI j ∧ (pr_ch (nI n) sp le N).2 = nI ((n / P j + 1) * P j) ∧ 0 < P j ∧ 0 < l j ∧ ∀ c, c < N → 0 < P c → 0 < l c → (n / P j + 1) * P j ≤ (n / P c + 1) * P c := by
  intro N
  induction N with
  | zero => intro _ _; exact Or.inl ⟨rfl, fun c hc => absurd hc (by omega)⟩
  | succ N ih =>
    intro hN h
    obtain ⟨b1, b2, b3, b4⟩ := h N (by omega)
    have i1 := ih (by omega) (fun c hc => h c (by omega))
    have skip : (0 < P N → l N = 0) → pr_ch (nI n) sp le (N + 1) = pr_ch (nI n) sp le N → ((pr_ch (nI n) sp le (N + 1)).1 = -1 ∧ ∀ c, c < N + 1 → 0 < P c → l c = 0) ∨
        ∃ j, j < N + 1 ∧ (pr_ch (nI n) sp le (N + 1)).1 = nI j ∧ (pr_ch (nI n) sp le (N + 1)).2 = nI ((n / P j + 1) * P j) ∧ 0 < P j ∧ 0 < l j ∧ ∀ c, c < N + 1 → 0 < P c → 0 < l c → (n / P j + 1) * P j ≤ (n / P c + 1) * P c := by
      intro hz e
      rw [e]
      cases i1 with
      | inl i1 =>
        refine Or.inl ⟨i1.1, fun c hc hP => ?_⟩
        by_cases y : c = N
        · subst y; exact hz hP
        · exact i1.2 c (by omega) hP
      | inr i1 =>
        obtain ⟨j, j1, j2, j3, j4, j5, j6⟩ := i1
        refine Or.inr ⟨j, by omega, j2, j3, j4, j5, fun c hc hP hl => ?_⟩
        by_cases y : c = N
        · subst y
          have := hz hP
          omega
        · exact j6 c (by omega) hP hl
    by_cases z1 : P N = 0
    · refine skip (fun y => by omega) (if_pos ?_)
      rw [b3, z1]; rfl
    have n1 : ¬ sp N = 0 := by rw [b3]; exact nI_ne0 (by omega) (by omega)
    by_cases z2 : l N = 0
    · refine skip (fun _ => z2) ((if_neg n1).trans (if_pos ?_))
      rw [b4]; exact (ps_le0 b2).mpr z2
    have n2 : ¬ le N ≤ 0 := by rw [b4]; exact fun y => z2 ((ps_le0 b2).mp y)
    have dN : pr_dl (nI n) (sp N) = nI ((n / P N + 1) * P N) := by rw [b3]; exact ps_dlN hn (by omega) b1
    have bN := ps_dlB (n := n) (p := P N)
    cases i1 with
    | inl i1 =>
      have e : pr_ch (nI n) sp le (N + 1) = (nI N, pr_dl (nI n) (sp N)) := (if_neg n1).trans ((if_neg n2).trans (if_pos i1.1))
      rw [e]
      refine Or.inr ⟨N, by omega, rfl, dN, by omega, by omega, fun c hc hP hl => ?_⟩
      by_cases y : c = N
      · subst y; exact Nat.le_refl _
      · have := i1.2 c (by omega) hP
        omega
    | inr i1 =>
      obtain ⟨j, j1, j2, j3, j4, j5, j6⟩ := i1
      have n3 : ¬ (pr_ch (nI n) sp le N).1 = -1 := by rw [j2]; exact ps_ne1 (by omega)
      have bj := ps_dlB (n := n) (p := P j)
      have bP := (h j (by omega)).1
      by_cases z4 : (n / P j + 1) * P j ≤ (n / P N + 1) * P N
      · have e : pr_ch (nI n) sp le (N + 1) = pr_ch (nI n) sp le N := (if_neg n1).trans ((if_neg n2).trans ((if_neg n3).trans (if_pos (by rw [j3, dN]; exact (nI_leI (by omega) (by omega)).mpr z4))))
        rw [e]
        refine Or.inr ⟨j, by omega, j2, j3, j4, j5, fun c hc hP hl => ?_⟩
        by_cases y : c = N
        · subst y; exact z4
        · exact j6 c (by omega) hP hl
      · have e : pr_ch (nI n) sp le (N + 1) = (nI N, pr_dl (nI n) (sp N)) := (if_neg n1).trans ((if_neg n2).trans ((if_neg n3).trans (if_neg (by rw [j3, dN]; exact fun y => z4 ((nI_leI (by omega) (by omega)).mp y)))))
        rw [e]
        refine Or.inr ⟨N, by omega, rfl, dN, by omega, by omega, fun c hc hP hl => ?_⟩
        by_cases y : c = N
        · subst y; exact Nat.le_refl _
        · have := j6 c (by omega) hP hl
          omega
/-! the task served -/
theorem ps_selE {n b : Nat} {T r : Nat → Nat} (hn : n ≤ 1000) : ∀ N, (∀ i, i < N → 0 < T i ∧ T i ≤ 64 ∧ r i < 2 ^ 31 ∧ pe (b + i) = nI (T i) ∧ re (b + i) = nI (r i)) →
    ((pr_sel true (nI n) pe re b N).1 = none ∧ ∀ i, i < N → r i = 0) ∨
    ∃ j, j < N ∧ (pr_sel true (nI n) pe re b N).1 = some j ∧ (pr_sel true (nI n) pe re b N).2 = nI ((n / T j + 1) * T j) ∧ 0 < r j ∧ ∀ i, i < N → 0 < r i → (n / T j + 1) * T j ≤ (n / T i + 1) * T i := by
  intro N
  induction N with
  | zero => intro _; exact Or.inl ⟨rfl, fun c hc => absurd hc (by omega)⟩
  | succ N ih =>
    intro h
    obtain ⟨b0, b1, b2, b3, b4⟩ := h N (by omega)
    have i1 := ih (fun c hc => h c (by omega))
    have dN : pr_dl (nI n) (pe (b + N)) = nI ((n / T N + 1) * T N) := by rw [b3]; exact ps_dlN hn b0 b1
    have bN := ps_dlB (n := n) (p := T N)
    by_cases z2 : r N = 0
    · have e : pr_sel true (nI n) pe re b (N + 1) = pr_sel true (nI n) pe re b N := pr_sel0 (by rw [b4]; exact (ps_le0 b2).mpr z2)
      rw [e]
      cases i1 with
      | inl i1 =>
        refine Or.inl ⟨i1.1, fun c hc => ?_⟩
        by_cases y : c = N
        · subst y; exact z2
        · exact i1.2 c (by omega)
      | inr i1 =>
        obtain ⟨j, j1, j2, j3, j5, j6⟩ := i1
        refine Or.inr ⟨j, by omega, j2, j3, j5, fun c hc hl => ?_⟩
        by_cases y : c = N
        · subst y; omega
        · exact j6 c (by omega) hl
    have n2 : ¬ re (b + N) ≤ 0 := by rw [b4]; exact fun y => z2 ((ps_le0 b2).mp y)
    cases i1 with
    | inl i1 =>
      have e := pr_sel1 (edf := true) (nw := nI n) (pe := pe) n2 i1.1
      rw [e]
      refine Or.inr ⟨N, by omega, rfl, dN, by omega, fun c hc hl => ?_⟩
      by_cases y : c = N
      · subst y; exact Nat.le_refl _
      · have := i1.2 c (by omega)
        omega
    | inr i1 =>
      obtain ⟨j, j1, j2, j3, j5, j6⟩ := i1
      have bj := ps_dlB (n := n) (p := T j)
      have bT := (h j (by omega)).2.1
      have e := pr_sel2 (edf := true) (nw := nI n) (pe := pe) n2 j2
      rw [e]
      by_cases z4 : (n / T j + 1) * T j ≤ (n / T N + 1) * T N
      · rw [if_neg (fun y => y.2 (by rw [j3, dN]; exact (nI_leI (by omega) (by omega)).mpr z4))]
        refine Or.inr ⟨j, by omega, j2, j3, j5, fun c hc hl => ?_⟩
        by_cases y : c = N
        · subst y; exact z4
        · exact j6 c (by omega) hl
      · rw [if_pos ⟨rfl, by rw [j3, dN]; exact fun y => z4 ((nI_leI (by omega) (by omega)).mp y)⟩]
        refine Or.inr ⟨N, by omega, rfl, dN, by omega, fun c hc hl => ?_⟩
        by_cases y : c = N
        · subst y; exact Nat.le_refl _
        · have := j6 c (by omega) hl
          omega
theorem ps_selF {nw : Int32} {b : Nat} {r : Nat → Nat} : ∀ N, (∀ i, i < N → r i < 2 ^ 31 ∧ re (b + i) = nI (r i)) →
    ((pr_sel false nw pe re b N).1 = none ∧ ∀ i, i < N → r i = 0) ∨ ∃ j, j < N ∧ (pr_sel false nw pe re b N).1 = some j ∧ 0 < r j ∧ ∀ i, i < j → r i = 0 := by
  intro N
  induction N with
  | zero => intro _; exact Or.inl ⟨rfl, fun c hc => absurd hc (by omega)⟩
  | succ N ih =>
    intro h
    obtain ⟨b2, b4⟩ := h N (by omega)
    have i1 := ih (fun c hc => h c (by omega))
    by_cases z2 : r N = 0
    · have e : pr_sel false nw pe re b (N + 1) = pr_sel false nw pe re b N := pr_sel0 (by rw [b4]; exact (ps_le0 b2).mpr z2)
      rw [e]
      cases i1 with
      | inl i1 =>
        refine Or.inl ⟨i1.1, fun c hc => ?_⟩
        by_cases y : c = N
        · subst y; exact z2
        · exact i1.2 c (by omega)
      | inr i1 =>
        obtain ⟨j, j1, j2, j5, j6⟩ := i1
        exact Or.inr ⟨j, by omega, j2, j5, j6⟩
    have n2 : ¬ re (b + N) ≤ 0 := by rw [b4]; exact fun y => z2 ((ps_le0 b2).mp y)
    cases i1 with
    | inl i1 =>
      have e := pr_sel1 (edf := false) (nw := nw) (pe := pe) n2 i1.1
      rw [e]
      exact Or.inr ⟨N, by omega, rfl, by omega, i1.2⟩
    | inr i1 =>
      obtain ⟨j, j1, j2, j5, j6⟩ := i1
      have e := pr_sel2 (edf := false) (nw := nw) (pe := pe) n2 j2
      rw [e, if_neg (fun y => absurd y.1 (by decide))]
      exact Or.inr ⟨j, by omega, j2, j5, j6⟩
/-! jobs released, when none is late -/
def ps_R (nw : Int32) (pe wc re : Nat → Int32) : Nat → Int32 := fun j => if pr_rm nw (pe j) = 0 then wc j else re j
theorem ps_rsLow {g a : Nat → Int32} (hK : ∀ c, c < 4 → pr_K ct c ≤ 8) : ∀ n, n ≤ 4 → ∀ j, n * 8 ≤ j → pr_rsR g ct a n j = a j := by
  intro n
  induction n with
  | zero => intro _ j _; rfl
  | succ n ih =>
    intro hn j hj
    show (if n * 8 ≤ j ∧ j < n * 8 + pr_K ct n then g j else pr_rsR g ct a n j) = a j
    have k := hK n (by omega)
    rw [if_neg (by omega)]
    exact ih (by omega) j (by omega)
theorem ps_rsAt {g a : Nat → Int32} (hK : ∀ c, c < 4 → pr_K ct c ≤ 8) {c i : Nat} (hi : i < pr_K ct c) : ∀ n, n ≤ 4 → c < n → pr_rsR g ct a n (c * 8 + i) = g (c * 8 + i) := by
  intro n
  induction n with
  | zero => intro _ hc; omega
  | succ n ih =>
    intro hn hc
    show (if n * 8 ≤ c * 8 + i ∧ c * 8 + i < n * 8 + pr_K ct n then g (c * 8 + i) else pr_rsR g ct a n (c * 8 + i)) = g (c * 8 + i)
    by_cases e : c = n
    · subst e
      rw [if_pos (by omega)]
    · have k := hK c (by omega)
      rw [if_neg (by omega)]
      exact ih (by omega) (by omega)
theorem ps_rj {nw : Int32} {c b : Nat} {s : (Nat → Int32) × (Nat → Int32)} : ∀ k, (∀ i, i < k → s.2 (b + i) = re (b + i)) → (∀ i, i < k → pr_rm nw (pe (b + i)) = 0 → re (b + i) ≤ 0) →
    pr_rj nw pe wc c b s k = (s.1, pr_fill (ps_R nw pe wc re) s.2 b (b + k)) := by
  intro k
  induction k with
  | zero => intro _ _; show s = (s.1, pr_fill (ps_R nw pe wc re) s.2 b b); rw [pr_fill0]
  | succ k ih =>
    intro hs hm
    have i1 := ih (fun i hi => hs i (by omega)) (fun i hi => hm i (by omega))
    have e2 : (pr_rj nw pe wc c b s k).2 (b + k) = re (b + k) := by
      rw [i1]
      exact pr_fillA.trans (hs k (by omega))
    by_cases h : pr_rm nw (pe (b + k)) = 0
    · rw [pr_rj1 h (by rw [e2]; exact hm k (by omega) h), i1]
      have e3 : wc (b + k) = ps_R nw pe wc re (b + k) := (if_pos h).symm
      show (s.1, upd (pr_fill (ps_R nw pe wc re) s.2 b (b + k)) (b + k) (wc (b + k))) = (s.1, pr_fill (ps_R nw pe wc re) s.2 b (b + k + 1))
      rw [e3, pr_fillS (by omega)]
    · rw [pr_rj0 h, i1]
      have e3 : ps_R nw pe wc re (b + k) = s.2 (b + k) := (if_neg h).trans (hs k (by omega)).symm
      show (s.1, pr_fill (ps_R nw pe wc re) s.2 b (b + k)) = (s.1, pr_fill (ps_R nw pe wc re) s.2 b (b + k + 1))
      rw [pr_fillN e3]
theorem ps_rl {nw : Int32} (hK : ∀ c, c < 4 → pr_K ct c ≤ 8) (hm : ∀ c, c < 4 → ∀ i, i < pr_K ct c → pr_rm nw (pe (c * 8 + i)) = 0 → re (c * 8 + i) ≤ 0) : ∀ n, n ≤ 4 → pr_rl nw ct pe wc (mi, re) n = (mi, pr_rsR (ps_R nw pe wc re) ct re n) := by
  intro n
  induction n with
  | zero => intro _; rfl
  | succ n ih =>
    intro hn
    have i1 := ih (by omega)
    show pr_rj nw pe wc n (n * 8) (pr_rl nw ct pe wc (mi, re) n) (pr_K ct n) = _
    rw [i1, ps_rj (re := re) (pr_K ct n) (fun i hi => ps_rsLow hK n (by omega) _ (by omega)) (hm n (by omega))]
    rfl
end PS34

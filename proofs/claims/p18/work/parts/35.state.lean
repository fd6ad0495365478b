section PS35
variable {hz ad : Int32} {po ct sp sb pe wc re ex mi le : Nat → Int32} {P Q K : Nat → Nat} {T C : Nat → Nat → Nat} {H n : Nat}
/-! what stands between the calls -/
def ps_St (H : Nat) (po ct sp sb pe wc : Nat → Int32) (P Q K : Nat → Nat) (T C : Nat → Nat → Nat) : Prop := ∀ c, c < 4 →
  (po c = 0 ∨ po c = 1) ∧ (K c ≤ 8 ∧ ct c = nI (K c)) ∧ (∀ i, i < K c → 1 ≤ T c i ∧ T c i ≤ 64 ∧ C c i ≤ 64 ∧ pe (c * 8 + i) = nI (T c i) ∧ wc (c * 8 + i) = nI (C c i)) ∧
  (P c ≤ 32 ∧ Q c ≤ P c ∧ sp c = nI (P c) ∧ sb c = nI (Q c)) ∧
  (0 < P c → (po c = 0 → ps_covE (T c) (C c) (K c) (P c) (Q c) H) ∧ (po c = 1 → ps_covF (T c) (C c) (K c) (P c) (Q c)))
/-! what stands while it is let in, at time n, and after the unit of time n (m = n + 1) -/
def ps_Af (H n m : Nat) (po re le : Nat → Int32) (P Q K : Nat → Nat) (T C : Nat → Nat → Nat) (l : Nat → Nat) (r : Nat → Nat → Nat) : Prop := ps_S P Q l n m ∧ ∀ c, c < 4 →
  l c ≤ 32 ∧ le c = nI (l c) ∧ (∀ i, i < K c → r c i ≤ 64 ∧ re (c * 8 + i) = nI (r c i)) ∧
  (0 < P c → Q c ≤ l c + (m - n / P c * P c) ∧ (po c = 0 → ps_E (T c) (C c) (r c) (K c) (P c) (Q c) (l c) n m H) ∧ (po c = 1 → ps_F (T c) (C c) (r c) (K c) (P c) (Q c) (l c) n m))
def ps_Dy (H n : Nat) (po re le : Nat → Int32) (P Q K : Nat → Nat) (T C : Nat → Nat → Nat) : Prop :=
  (∀ c, c < 4 → 0 < K c → 0 < P c) ∧ ps_BW P Q ∧ ∃ (l : Nat → Nat) (r : Nat → Nat → Nat), ps_Af H n n po re le P Q K T C l r
theorem ps_StC (S : ps_St H po ct sp sb pe wc P Q K T C) : ∀ c, c < 4 → pr_C po ct sp sb pe c := by
  intro c hc
  obtain ⟨h1, ⟨h2, h3⟩, h4, ⟨h5, h6, h7, h8⟩, -⟩ := S c hc
  refine ⟨h1, ⟨K c, h2, h3, fun i hi => ?_⟩, ⟨P c, Q c, h5, h6, h7, h8⟩⟩
  obtain ⟨a, b, -, e, -⟩ := h4 i hi
  exact ⟨T c i, a, b, e⟩
theorem ps_StK (S : ps_St H po ct sp sb pe wc P Q K T C) : ∀ c, c < 4 → pr_K ct c = K c := by
  intro c hc
  obtain ⟨-, ⟨h2, h3⟩, -⟩ := S c hc
  exact pr_Ke h3 (by omega)
/-- the unit's end: time, budgets, jobs -/
theorem ps_tail {re1 le1 : Nat → Int32} {l1 : Nat → Nat} {r1 : Nat → Nat → Nat} (S : ps_St H po ct sp sb pe wc P Q K T C) (hH : H ≤ 256) (hn : n + 1 ≤ H) (hs : ∀ c, c < 4 → 0 < K c → 0 < P c) (hb : ps_BW P Q)
    (A : ps_Af H n (n + 1) po re1 le1 P Q K T C l1 r1) :
    pr_rl (nI (n + 1)) ct pe wc (mi, re1) 4 = (mi, pr_rsR (ps_R (nI (n + 1)) pe wc re1) ct re1 4) ∧
    ps_Dy H (n + 1) po (pr_rsR (ps_R (nI (n + 1)) pe wc re1) ct re1 4) (pr_fill (pr_rf (nI (n + 1)) sp sb le1) le1 0 4) P Q K T C := by
  obtain ⟨AS, A⟩ := A
  have hK : ∀ c, c < 4 → pr_K ct c ≤ 8 := by
    intro c hc
    rw [ps_StK S c hc]
    exact (S c hc).2.1.1
  have fit : ∀ c, c < 4 → 0 < P c → l1 c ≤ (n / P c + 1) * P c - (n + 1) := fun c hc hP => ps_fit AS hc hP (ps_up hP)
  refine ⟨ps_rl hK (fun c hc i hi hm => ?_) 4 (Nat.le_refl _), hs, hb, fun c => if (n + 1) % P c = 0 then Q c else l1 c, fun c i => if (n + 1) % T c i = 0 then C c i else r1 c i, ps_S2 AS (fun c _ h => if_pos h) (fun c _ h => if_neg h), fun c hc => ?_⟩
  · rw [ps_StK S c hc] at hi
    obtain ⟨h1, -, h4, -, -⟩ := S c hc
    obtain ⟨-, -, a3, a4⟩ := A c hc
    obtain ⟨t1, t2, t3, t4, t5⟩ := h4 i hi
    obtain ⟨r1b, r1e⟩ := a3 i hi
    have hP := hs c hc (by omega)
    obtain ⟨-, aE, aF⟩ := a4 hP
    rw [t4] at hm
    have hm' := (ps_rmN (by omega) (by omega) t2).mp hm
    have z : r1 c i = 0 := by
      cases h1 with
      | inl h => exact ps_Em hP (aE h) (fit c hc hP) hn hi hm'
      | inr h => exact ps_Fm (aF h) hi hm'
    rw [r1e]
    exact (ps_le0 (by omega)).mpr z
  · obtain ⟨h1, ⟨h2, h3⟩, h4, ⟨h5, h6, h7, h8⟩, h9⟩ := S c hc
    obtain ⟨a1, a2, a3, a4⟩ := A c hc
    refine ⟨?_, ?_, fun i hi => ?_, fun hP => ?_⟩
    · show (if (n + 1) % P c = 0 then Q c else l1 c) ≤ 32
      by_cases z : (n + 1) % P c = 0
      · rw [if_pos z]; omega
      · rw [if_neg z]; exact a1
    · show (if 0 ≤ c ∧ c < 4 then pr_rf (nI (n + 1)) sp sb le1 c else le1 c) = nI (if (n + 1) % P c = 0 then Q c else l1 c)
      rw [if_pos ⟨Nat.zero_le _, hc⟩]
      show (if sp c = 0 then le1 c else if pr_rm (nI (n + 1)) (sp c) = 0 then sb c else le1 c) = _
      by_cases y : P c = 0
      · rw [if_pos (by rw [h7, y]; rfl), y, Nat.mod_zero, if_neg (by omega)]; exact a2
      · rw [if_neg (by rw [h7]; exact nI_ne0 (by omega) (by omega)), h7]
        by_cases z : (n + 1) % P c = 0
        · rw [if_pos z, if_pos ((ps_rmN (by omega) (by omega) (by omega)).mpr z)]; exact h8
        · rw [if_neg z, if_neg (fun w => z ((ps_rmN (by omega) (by omega) (by omega)).mp w))]; exact a2
    · obtain ⟨t1, t2, t3, t4, t5⟩ := h4 i hi
      obtain ⟨r1b, r1e⟩ := a3 i hi
      rw [ps_rsAt hK (by rw [ps_StK S c hc]; exact hi) 4 (Nat.le_refl _) hc]
      show (if (n + 1) % T c i = 0 then C c i else r1 c i) ≤ 64 ∧ (if pr_rm (nI (n + 1)) (pe (c * 8 + i)) = 0 then wc (c * 8 + i) else re1 (c * 8 + i)) = nI (if (n + 1) % T c i = 0 then C c i else r1 c i)
      rw [t4]
      by_cases z : (n + 1) % T c i = 0
      · rw [if_pos z, if_pos ((ps_rmN (by omega) (by omega) (by omega)).mpr z)]; exact ⟨t3, t5⟩
      · rw [if_neg z, if_neg (fun w => z ((ps_rmN (by omega) (by omega) (by omega)).mp w))]; exact ⟨r1b, r1e⟩
    · obtain ⟨aA, aE, aF⟩ := a4 hP
      have hf := fit c hc hP
      have L1 : (n + 1) % P c = 0 → (if (n + 1) % P c = 0 then Q c else l1 c) = Q c := fun h => if_pos h
      have L2 : ¬ (n + 1) % P c = 0 → (if (n + 1) % P c = 0 then Q c else l1 c) = l1 c := fun h => if_neg h
      have R1 : ∀ i, i < K c → (n + 1) % T c i = 0 → (if (n + 1) % T c i = 0 then C c i else r1 c i) = C c i := fun i _ h => if_pos h
      have R2 : ∀ i, i < K c → ¬ (n + 1) % T c i = 0 → (if (n + 1) % T c i = 0 then C c i else r1 c i) = r1 c i := fun i _ h => if_neg h
      have g := ps_age2 aA L1 L2
      exact ⟨g, fun h => ps_E2 hP h6 (aE h) hf L1 L2 R1 R2, fun h => ps_F2 (fun i hi => (h4 i hi).1) hP h6 ((h9 hP).2 h) (aF h) hf g L1 L2 R1 R2⟩
/-- the unit itself: given to no one -/
theorem ps_none {l : Nat → Nat} {r : Nat → Nat → Nat} (S : ps_St H po ct sp sb pe wc P Q K T C) (hb : ps_BW P Q) (A : ps_Af H n n po re le P Q K T C l r) (hz : ∀ c, c < 4 → 0 < P c → l c = 0) : ps_Af H n (n + 1) po re le P Q K T C l r := by
  obtain ⟨AS, A⟩ := A
  have S1 : ps_S P Q l n (n + 1) := ps_S1 hb AS (Or.inl ⟨hz, rfl⟩)
  refine ⟨S1, fun c hc => ?_⟩
  obtain ⟨a1, a2, a3, a4⟩ := A c hc
  refine ⟨a1, a2, a3, fun hP => ?_⟩
  obtain ⟨aA, aE, aF⟩ := a4 hP
  exact ⟨by omega, fun h => ps_E1n (aE h), fun h => ps_Fn hP (ps_fit S1 hc hP (ps_up hP)) (aF h)⟩
/-- .. to component j, whose task o is served -/
theorem ps_some {l : Nat → Nat} {r : Nat → Nat → Nat} {j : Nat} (S : ps_St H po ct sp sb pe wc P Q K T C) (hH : H ≤ 256) (hn : n + 1 ≤ H) (hb : ps_BW P Q) (A : ps_Af H n n po re le P Q K T C l r)
    (hj : j < 4) (hPj : 0 < P j) (hlj : 0 < l j) (hd : ∀ c, c < 4 → 0 < P c → 0 < l c → (n / P j + 1) * P j ≤ (n / P c + 1) * P c) :
    ∃ (l1 : Nat → Nat) (r1 : Nat → Nat → Nat), ps_Af H n (n + 1) po (pr_svR (j * 8) re (pr_sel (decide (po j = 0)) (nI n) pe re (j * 8) (K j)).1) (upd le j (le j - 1)) P Q K T C l1 r1 := by
  obtain ⟨AS, A⟩ := A
  obtain ⟨m, hm⟩ : ∃ m, l j = m + 1 := ⟨l j - 1, by omega⟩
  obtain ⟨g1, ⟨g2, g3⟩, g4, ⟨g5, g6, g7, g8⟩, g9⟩ := S j hj
  obtain ⟨b1, b2, b3, b4⟩ := A j hj
  obtain ⟨bA, bE, bF⟩ := b4 hPj
  -- the rests of component j afterwards
  have hsel : ∃ q : Nat → Nat, (∀ i, i < K j → q i ≤ 64 ∧ pr_svR (j * 8) re (pr_sel (decide (po j = 0)) (nI n) pe re (j * 8) (K j)).1 (j * 8 + i) = nI (q i)) ∧
      (∀ x, (x < j * 8 ∨ j * 8 + 8 ≤ x) → pr_svR (j * 8) re (pr_sel (decide (po j = 0)) (nI n) pe re (j * 8) (K j)).1 x = re x) ∧ (po j = 0 → ps_pick (K j) (T j) (r j) q n) ∧ (po j = 1 → ps_first (K j) (r j) q) := by
    have one : ∀ (o : Option Nat), ((o = none ∧ ∀ i, i < K j → r j i = 0) ∨ ∃ w, w < K j ∧ o = some w ∧ 0 < r j w) →
        ∃ q : Nat → Nat, (∀ i, i < K j → q i ≤ 64 ∧ pr_svR (j * 8) re o (j * 8 + i) = nI (q i)) ∧ (∀ x, (x < j * 8 ∨ j * 8 + 8 ≤ x) → pr_svR (j * 8) re o x = re x) ∧ (o = none → q = r j) ∧ (∀ w, o = some w → q w + 1 = r j w ∧ ∀ i, i ≠ w → q i = r j i) := by
      intro o ho
      cases ho with
      | inl ho =>
        obtain ⟨rfl, h0⟩ := ho
        exact ⟨r j, b3, fun x _ => rfl, fun _ => rfl, fun w e => by cases e⟩
      | inr ho =>
        obtain ⟨w, hw, rfl, h0⟩ := ho
        obtain ⟨v, hv⟩ : ∃ v, r j w = v + 1 := ⟨r j w - 1, by omega⟩
        refine ⟨fun i => if i = w then v else r j i, fun i hi => ?_, fun x hx => pk_un (by omega), (fun e => by cases e), fun w' e => ?_⟩
        · obtain ⟨c1, c2⟩ := b3 i hi
          show (if i = w then v else r j i) ≤ 64 ∧ upd re (j * 8 + w) (re (j * 8 + w) - 1) (j * 8 + i) = nI (if i = w then v else r j i)
          by_cases e : i = w
          · subst e
            rw [if_pos rfl, pk_us, c2, hv, nI_pred]
            exact ⟨by omega, rfl⟩
          · rw [if_neg e, pk_un (by omega)]
            exact ⟨c1, c2⟩
        · cases e
          refine ⟨?_, fun i hi => if_neg hi⟩
          show (if w = w then v else r j w) + 1 = r j w
          rw [if_pos rfl, hv]
    cases g1 with
    | inl h =>
      rw [decide_eq_true h]
      cases ps_selE (b := j * 8) (T := T j) (r := r j) (pe := pe) (re := re) (n := n) (by omega) (K j) (fun i hi => ⟨(g4 i hi).1, (g4 i hi).2.1, by have := (b3 i hi).1; omega, (g4 i hi).2.2.2.1, (b3 i hi).2⟩) with
      | inl s =>
        obtain ⟨q, q1, q2, q3, q4⟩ := one _ (Or.inl s)
        exact ⟨q, q1, q2, fun _ => Or.inl ⟨fun i hi _ => s.2 i hi, q3 s.1⟩, fun y => absurd (h.symm.trans y) (by decide)⟩
      | inr s =>
        obtain ⟨w, w1, w2, w3, w4, w5⟩ := s
        obtain ⟨q, q1, q2, q3, q4⟩ := one _ (Or.inr ⟨w, w1, w2, w4⟩)
        obtain ⟨q5, q6⟩ := q4 w w2
        exact ⟨q, q1, q2, fun _ => Or.inr ⟨w, w1, (g4 w w1).1, q5, q6, fun i hi _ hr => w5 i hi hr⟩, fun y => absurd (h.symm.trans y) (by decide)⟩
    | inr h =>
      rw [decide_eq_false (by rw [h]; decide)]
      cases ps_selF (b := j * 8) (r := r j) (pe := pe) (re := re) (nw := nI n) (K j) (fun i hi => ⟨by have := (b3 i hi).1; omega, (b3 i hi).2⟩) with
      | inl s =>
        obtain ⟨q, q1, q2, q3, q4⟩ := one _ (Or.inl s)
        exact ⟨q, q1, q2, fun y => absurd (y.symm.trans h) (by decide), fun _ => Or.inl ⟨s.2, q3 s.1⟩⟩
      | inr s =>
        obtain ⟨w, w1, w2, w4, w5⟩ := s
        obtain ⟨q, q1, q2, q3, q4⟩ := one _ (Or.inr ⟨w, w1, w2, w4⟩)
        obtain ⟨q5, q6⟩ := q4 w w2
        exact ⟨q, q1, q2, fun y => absurd (y.symm.trans h) (by decide), fun _ => Or.inr ⟨w, w1, q5, q6, w5⟩⟩
  obtain ⟨q, q1, q2, q3, q4⟩ := hsel
  have pick : ps_pick 4 P l (fun c => if c = j then m else l c) n := by
    refine Or.inr ⟨j, hj, hPj, ?_, fun c hc => if_neg hc, hd⟩
    show (if j = j then m else l j) + 1 = l j
    rw [if_pos rfl, hm]
  have S1 := ps_S1 hb AS pick
  refine ⟨fun c => if c = j then m else l c, fun c => if c = j then q else r c, S1, fun c hc => ?_⟩
  by_cases e : c = j
  · subst e
    have f := ps_fit S1 hc hPj (ps_up hPj)
    rw [if_pos rfl] at f
    dsimp only
    rw [if_pos rfl, if_pos rfl]
    refine ⟨by omega, ?_, q1, fun _ => ⟨?_, fun h => ?_, fun h => ?_⟩⟩
    · rw [pk_us, b2, hm, nI_pred]
    · exact ps_age1 (l := l c) bA (by omega)
    · have bE' := bE h
      rw [hm] at bE' bA
      exact ps_E1 hPj g6 ((g9 hPj).1 h) bE' bA (q3 h)
    · have bF' := bF h
      rw [hm] at bF'
      exact ps_Fs hPj f bF' (q4 h)
  · have f := fun hP => ps_fit S1 hc hP (ps_up hP)
    rw [if_neg e] at f
    dsimp only
    rw [if_neg e, if_neg e]
    obtain ⟨a1, a2, a3, a4⟩ := A c hc
    refine ⟨a1, by rw [pk_un e]; exact a2, fun i hi => ?_, fun hP => ?_⟩
    · rw [q2 (c * 8 + i) (by have := (S c hc).2.1.1; omega)]
      exact a3 i hi
    · obtain ⟨aA, aE, aF⟩ := a4 hP
      exact ⟨by omega, fun h => ps_E1n (aE h), fun h => ps_Fn hP (f hP) (aF h)⟩
/-- the state at an admission, everything reset -/
theorem ps_start (S : ps_St H po ct sp sb pe wc P Q K T C) (hs : ∀ c, c < 4 → 0 < K c → 0 < P c) (hb : ps_BW P Q) :
    ps_Dy H 0 po (pr_rsR wc ct re 4) (pr_fill (pr_rsL sp sb) le 0 4) P Q K T C := by
  have hK : ∀ c, c < 4 → pr_K ct c ≤ 8 := by
    intro c hc
    rw [ps_StK S c hc]
    exact (S c hc).2.1.1
  refine ⟨hs, hb, Q, C, ps_S0 hb, fun c hc => ?_⟩
  obtain ⟨h1, ⟨h2, h3⟩, h4, ⟨h5, h6, h7, h8⟩, h9⟩ := S c hc
  refine ⟨by omega, ?_, fun i hi => ?_, fun hP => ?_⟩
  · show (if 0 ≤ c ∧ c < 4 then pr_rsL sp sb c else le c) = nI (Q c)
    rw [if_pos ⟨Nat.zero_le _, hc⟩]
    show (if sp c = 0 then 0 else sb c) = nI (Q c)
    by_cases y : P c = 0
    · rw [if_pos (by rw [h7, y]; rfl), show Q c = 0 from by omega]; rfl
    · rw [if_neg (by rw [h7]; exact nI_ne0 (by omega) (by omega))]; exact h8
  · rw [ps_rsAt hK (by rw [ps_StK S c hc]; exact hi) 4 (Nat.le_refl _) hc]
    exact ⟨(h4 i hi).2.2.1, (h4 i hi).2.2.2.2⟩
  · have ag : ps_age (P c) (Q c) (Q c) 0 := Nat.le_add_right _ _
    refine ⟨ag, fun h => ps_E0 hP h6 ((h9 hP).1 h), fun h j hj => ps_Fnew (fun i hi => (h4 i hi).1) hP h6 ((h9 hP).2 h) ag hj (fun i hi => Or.inl ⟨Nat.zero_mod _, rfl⟩)⟩
end PS35
